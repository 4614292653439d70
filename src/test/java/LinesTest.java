/** Promises 32 to 34: lines. */
public final class LinesTest {
    private static final Class<IndexOutOfBoundsException> OUT = IndexOutOfBoundsException.class;

    public static void main(String[] args) {
        line();
        rowLine();
        character();
        Checks.end();
    }

    private static void line(String what, CrowdSketches x, int name, String due) {
        Checks.same("promise 32: length, " + what, x.line(name), due.length());
        Checks.same("promise 32: " + what, Checks.lineText(x), due);
    }

    private static void line() {
        CrowdSketches x = new CrowdSketches();
        Checks.refusesUnchanged("promise 32: no name", x, OUT, () -> x.line(0));
        Checks.count(x, "anna", 12);
        Checks.count(x, "a", 1);
        Checks.count(x, "i", 50);
        Checks.count(x, "b", 2);
        line("heavy by the book", x, 2, "i 51/50 H");
        line("heavy by guess", x, 1, "a 51/1 h");
        line("not heavy", x, 3, "b 2/2");
        x.take(1, 1);
        line("taken back", x, 1, "a 50/0 h");
        x.take(3, 2);
        line("0", x, 3, "b 0/0");
        line("four letters", x, 0, "anna 12/12 H");
        Checks.refusesUnchanged("promise 32: name 4", x, OUT, () -> x.line(4));
        Checks.refusesUnchanged("promise 32: name -1", x, OUT, () -> x.line(-1));
    }

    private static void rowLine(String what, CrowdSketches x, int row, String due) {
        Checks.same("promise 33: length, " + what, x.rowLine(row), due.length());
        Checks.same("promise 33: " + what, Checks.lineText(x), due);
    }

    private static void rowLine() {
        CrowdSketches x = new CrowdSketches();
        rowLine("a new one", x, 0, "0: 0 0 0 0 0 0 0 0");
        Checks.count(x, "bo", 12);
        x.resize(3);
        x.row(42);
        rowLine("with a name", x, 0, "0: 0 0 12");
        // By hand: 2, then 2 times 49 and 15, which are 113.
        rowLine("another salt", x, 1, "42: 0 0 12");
        x.resize(2);
        rowLine("fewer cells", x, 1, "42: 0 12");
        Checks.refusesUnchanged("promise 33: row 2", x, OUT, () -> x.rowLine(2));
        Checks.refusesUnchanged("promise 33: row -1", x, OUT, () -> x.rowLine(-1));
    }

    private static void character() {
        CrowdSketches x = new CrowdSketches();
        Checks.refusesUnchanged("promise 34: empty at first", x, OUT, () -> x.character(0));
        Checks.count(x, "bo", 5);
        x.line(0);
        Checks.same("promise 34: the first", x.character(0), 'b');
        Checks.same("promise 34: a blank", x.character(2), ' ');
        Checks.same("promise 34: the last", x.character(7), 'H');
        Checks.refusesUnchanged("promise 34: index 8 of 8", x, OUT, () -> x.character(8));
        Checks.refusesUnchanged("promise 34: index -1", x, OUT, () -> x.character(-1));
        lineIsNotUndone();
    }

    private static void lineIsNotUndone() {
        CrowdSketches x = new CrowdSketches();
        Checks.count(x, "bo", 5);
        x.line(0);
        x.undo();
        Checks.same("promise 34: the line is not undone", Checks.lineText(x), "bo 5/5 H");
        x.daysLine(Checks.count(x, "a", 1) - 1);
        Checks.refusesUnchanged("promise 34: empty again", x, OUT, () -> x.character(0));
    }
}
