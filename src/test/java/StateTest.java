import java.util.NoSuchElementException;

/** What a call changes, what it leaves, and what it changes all the same when it throws. */
public final class StateTest {
    private static final Class<IllegalArgumentException> WRONG = IllegalArgumentException.class;
    private static final Class<UnsupportedOperationException> NOT_NOW = UnsupportedOperationException.class;
    private static final Class<NoSuchElementException> NONE = NoSuchElementException.class;

    public static void main(String[] args) {
        countEmptiesTheInput();
        readEmptiesTheInput();
        namedKeepsTheInput();
        changesKeepTheRest();
        undoAndSnapshotKeepTheRest();
        inputStaysThroughAll();
        tellsChangeNothing();
        linesTakeThePlace();
        linesStayAsTheyWere();
        errorPositionIsOfTheLatest();
        snapshotStays();
        snapshotIsOfThatTime();
        changesThatMakeNoDifference();
        Checks.end();
    }

    private static void empties(String what, CrowdSketches x, Checks.Call call, Object due) {
        Checks.same(what, Checks.answer(call), due);
        Checks.same(what + ": the input is empty", x.account(11), 0);
        Checks.refuses(what + ": no name is in it", NONE, x::named);
        Checks.same(what + ": the next sign is the first", x.append('q'), 1);
    }

    private static void countEmptiesTheInput() {
        String[] texts = {"bo", "bo", "bo", "toolong", "Bo", "row 1"};
        int[] times = {1, 0, 100, 1, 1, 100};
        for (int i = 0; i < texts.length; i++) {
            CrowdSketches x = Checks.crowd();
            int many = times[i];
            Checks.type(x, texts[i]);
            empties("count of " + texts[i], x, () -> x.count(many), i == 0 ? (Object) 12 : "IllegalArgumentException");
        }
        CrowdSketches ten = new CrowdSketches();
        for (char c = 'a'; c <= 'j'; c++) {
            Checks.count(ten, "" + c, 1);
        }
        Checks.type(ten, "k");
        empties("count of an eleventh name", ten, () -> ten.count(1), "UnsupportedOperationException");
        CrowdSketches most = new CrowdSketches();
        Checks.count(most, "a", 99);
        for (int i = 0; i < 100; i++) {
            most.again(0, 99);
        }
        Checks.type(most, "a");
        empties("count of a name too often", most, () -> most.count(1), "UnsupportedOperationException");
    }

    private static void readEmptiesTheInput() {
        String[] texts = {"row 1", "row", "bo", "take anna 1", "cells 99", "share 10", "row 1;cells 3"};
        Object[] due = {1, "IllegalArgumentException", "IllegalArgumentException", "IllegalArgumentException",
            "IllegalArgumentException", "UnsupportedOperationException", "UnsupportedOperationException"};
        int[] positions = {-1, 3, 0, -1, -1, -1, -1};
        for (int i = 0; i < texts.length; i++) {
            CrowdSketches x = Checks.crowd();
            Checks.type(x, texts[i]);
            empties("read of " + texts[i], x, x::read, due[i]);
            Checks.same("the error position of " + texts[i], x.errorPosition(), positions[i]);
        }
    }

    private static void namedKeepsTheInput() {
        CrowdSketches x = Checks.typing();
        Checks.same("named", x.named(), 1);
        Checks.same("named once more", x.named(), 1);
        Checks.same("named keeps it", x.account(11), 2);
        Checks.throwsAlone("named of what is not known", StateTest::anna, NONE, CrowdSketches::named);
        CrowdSketches y = anna();
        Checks.refuses("named of anna", NONE, y::named);
        Checks.same("it can still be counted", y.count(7) > 0, true);
        Checks.same("and is known then", y.letter(2, 0), 'a');
    }

    private static CrowdSketches anna() {
        CrowdSketches x = Checks.crowd();
        Checks.type(x, "anna");
        return x;
    }

    /** The line, the error position, the reason, and whether "ed" is in the input. */
    private static String rest(CrowdSketches x) {
        return Checks.lineText(x) + ", " + x.errorPosition() + ", " + x.refusal(false) + ", " + x.refusal(true) + ", "
                + Checks.answer(x::named) + " of " + x.account(11);
    }

    private static void changesKeepTheRest() {
        Checks.Use[] changes = {x -> x.row(9), x -> x.drop(0), x -> x.salt(0, 9), x -> x.resize(9),
            x -> x.manner(true), x -> x.share(9), x -> x.again(0, 9), x -> x.take(0, 9), CrowdSketches::endDay};
        for (int i = 0; i < changes.length; i++) {
            CrowdSketches x = Checks.typing();
            changes[i].of(x);
            Checks.same("change " + i + " keeps the rest", rest(x), "bo 11/11 H, 4, 3, 3, 1 of 2");
            Checks.same("change " + i + " is one", x.account(12), 8);
        }
        CrowdSketches x = Checks.typing();
        x.count(9);
        Checks.same("count keeps the rest", rest(x), "bo 11/11 H, 4, 3, 3, NoSuchElementException of 0");
        Checks.read(x, "row 9");
        Checks.same("read has no error", rest(x), "bo 11/11 H, -1, 3, 3, NoSuchElementException of 0");
    }

    private static void undoAndSnapshotKeepTheRest() {
        CrowdSketches x = Checks.typing();
        String due = "bo 11/11 H, 4, 3, 3, 1 of 2";
        x.undo();
        Checks.same("undo keeps the rest", rest(x), due);
        x.save();
        Checks.same("save keeps the rest", rest(x), due);
        x.endDay();
        x.restore();
        Checks.same("restore keeps the rest", rest(x), due);
        CrowdSketches y = new CrowdSketches();
        y.save();
        Checks.count(y, "anna", 5);
        y.line(0);
        Checks.answer(() -> Checks.read(y, "rows"));
        Checks.answer(() -> y.drop(0));
        Checks.type(y, "anna");
        y.restore();
        Checks.same("they are not saved", Checks.lineText(y) + y.errorPosition() + y.refusal(false) + y.account(11),
                "anna 5/5 H324");
        Checks.same("the name in the input is not known now", Checks.answer(y::named), "NoSuchElementException");
        Checks.same("and can be counted", y.count(3), 3);
    }

    private static void inputStaysThroughAll() {
        CrowdSketches x = new CrowdSketches();
        x.append('b');
        x.row(3);
        x.save();
        x.restore();
        x.share(7);
        x.undo();
        x.rowLine(0);
        Checks.answer(x::named);
        Checks.same("the second sign", x.append('o'), 2);
        Checks.same("both are a name", x.count(5), 5);
        Checks.same("the first of it", x.letter(0, 0), 'b');
    }

    private static void tellsChangeNothing() {
        Checks.Use[] tells = {x -> x.cell(0, 0), x -> x.cellOf(0, 0), x -> x.shared(0), CrowdSketches::named,
            x -> x.letter(0, 0), x -> x.guess(0), x -> x.plainGuess(0), x -> x.booked(0), x -> x.error(0),
            CrowdSketches::worst, CrowdSketches::bound, x -> x.isWithin(0), x -> x.bestRow(0), x -> x.heavy(true),
            x -> x.heavy(false), x -> x.ranked(0), x -> x.gained(0, 0), x -> x.today(0), CrowdSketches::busiest,
            x -> x.isRising(0), x -> x.character(0), CrowdSketches::errorPosition, x -> x.refusal(true),
            x -> x.refusal(false), x -> x.account(6), CrowdSketches::isWell, CrowdSketches::meanError,
            CrowdSketches::fullShare};
        for (int i = 0; i < tells.length; i++) {
            CrowdSketches x = Checks.typing();
            String before = Checks.view(x);
            Object answer = tells[i].of(x);
            Checks.same("tell " + i + " changes nothing", Checks.view(x), before);
            Checks.same("tell " + i + " answers the same again", tells[i].of(x), answer);
        }
        Checks.Use[] others = {x -> x.line(1), x -> x.rowLine(1), x -> x.daysLine(1), CrowdSketches::save};
        for (int i = 0; i < others.length; i++) {
            CrowdSketches x = Checks.typing();
            String before = Checks.changeable(x);
            others[i].of(x);
            Checks.same("line or save " + i + " is no change", x.account(12), 7);
            Checks.same("line or save " + i + " changes nothing", Checks.changeable(x), before);
        }
    }

    private static void line(String what, CrowdSketches x, int length, String due) {
        Checks.same(what + ": length", length, due.length());
        Checks.same(what, Checks.lineText(x), due);
    }

    private static void linesTakeThePlace() {
        CrowdSketches x = Checks.crowd();
        line("a row after a name", x, x.rowLine(0), "0: 5 0 11");
        line("days after a row", x, x.daysLine(0), "12 -1");
        line("a row after days", x, x.rowLine(1), "5: 11 5 0");
        line("a name after a row", x, x.line(1), "ed 5/5 H");
        line("days after a name", x, x.daysLine(1), "5 0");
        line("a longer name", x, x.line(0), "bo 11/11 H");
        CrowdSketches y = new CrowdSketches();
        Checks.count(y, "anna", 99);
        line("a name first", y, y.line(0), "anna 99/99 H");
        line("nothing after a name", y, y.daysLine(0), "");
        Checks.refuses("no sign of it", IndexOutOfBoundsException.class, () -> y.character(0));
    }

    private static void linesStayAsTheyWere() {
        CrowdSketches x = Checks.crowd();
        x.again(0, 9);
        line("a line is of its time", x, 10, "bo 11/11 H");
        Checks.refuses("no such name", IndexOutOfBoundsException.class, () -> x.line(2));
        Checks.refuses("no such row", IndexOutOfBoundsException.class, () -> x.rowLine(2));
        Checks.refuses("no such name's days", IndexOutOfBoundsException.class, () -> x.daysLine(-1));
        line("a line that is not written leaves the one before", x, 10, "bo 11/11 H");
    }

    private static void errorPositionIsOfTheLatest() {
        CrowdSketches x = new CrowdSketches();
        Checks.same("read has not been called", x.errorPosition(), -1);
        Checks.refuses("an error", WRONG, () -> Checks.read(x, "row 123"));
        Checks.same("an error", x.errorPosition(), 6);
        Checks.refuses("another error", WRONG, () -> Checks.read(x, "s"));
        Checks.same("another error", x.errorPosition(), 1);
        Checks.refuses("a method throws", WRONG, () -> Checks.read(x, "cells 0"));
        Checks.same("a method throws", x.errorPosition(), -1);
        Checks.refuses("an error at the first sign", WRONG, () -> Checks.read(x, "!"));
        Checks.same("an error at the first sign", x.errorPosition(), 0);
        Checks.refuses("an order is refused", NOT_NOW, () -> Checks.read(x, "share 10"));
        Checks.same("an order is refused", x.errorPosition(), -1);
        Checks.refuses("a third error", WRONG, () -> Checks.read(x, "take a"));
        Checks.refuses("count is not read", WRONG, () -> Checks.count(x, "row 1", 1));
        Checks.same("a third error", x.errorPosition(), 6);
        Checks.same("orders", Checks.read(x, "row 1;row 2"), 2);
        Checks.same("no error", x.errorPosition(), -1);
    }

    private static void snapshotStays() {
        CrowdSketches x = Checks.crowd();
        x.save();
        String saved = Checks.changeable(x);
        for (int time = 1; time <= 3; time++) {
            Checks.read(x, "count new 9;row 7;take bo 3");
            x.endDay();
            Checks.same("restored, time " + time, x.restore(), 2);
            Checks.same("as it was, time " + time, Checks.changeable(x), saved);
            Checks.same("nothing to undo, time " + time, x.account(12), 0);
        }
        x.share(44);
        x.undo();
        Checks.same("undo after restore", Checks.changeable(x), saved);
    }

    private static void snapshotIsOfThatTime() {
        CrowdSketches x = new CrowdSketches();
        Checks.count(x, "a", 1);
        Checks.same("a snapshot of one name", x.save(), 1);
        Checks.count(x, "b", 2);
        Checks.same("another one of two", x.save(), 2);
        Checks.count(x, "c", 3);
        x.undo();
        x.undo();
        Checks.same("undo leaves the snapshot", x.restore(), 2);
        Checks.same("the earlier one is gone", x.booked(1), 2);
        x.again(1, 5);
        x.save();
        x.restore();
        Checks.same("the latest one", x.booked(1), 7);
        Checks.same("of two names still", x.account(4), 2);
    }

    private static void changesThatMakeNoDifference() {
        CrowdSketches x = Checks.crowd();
        String before = Checks.changeable(x);
        Checks.same("there and back", Checks.read(x, "share 11;share 10;cells 4;cells 3"), 4);
        Checks.same("nothing is different", Checks.changeable(x), before);
        Checks.same("it is a change all the same", x.account(12), 8);
        Checks.same("and is undone alone", x.undo(), 7);
        Checks.same("still nothing is different", Checks.changeable(x), before);
        CrowdSketches y = new CrowdSketches();
        Checks.same("a day without names", y.endDay(), 0);
        Checks.same("is a change", y.account(12), 1);
    }
}
