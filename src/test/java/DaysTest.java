import java.util.NoSuchElementException;

/** Promises 26 to 31: days. */
public final class DaysTest {
    private static final Class<IndexOutOfBoundsException> OUT = IndexOutOfBoundsException.class;
    private static final Class<NoSuchElementException> NONE = NoSuchElementException.class;

    public static void main(String[] args) {
        endDay();
        gained();
        today();
        busiest();
        isRising();
        daysLine();
        Checks.end();
    }

    /** A name that gains these in one day each; what is below 0 is taken back. */
    private static CrowdSketches days(int... gains) {
        CrowdSketches x = new CrowdSketches();
        Checks.count(x, "a", 1);
        x.take(0, 1);
        for (int gain : gains) {
            if (gain > 0) {
                x.again(0, gain);
            } else if (gain < 0) {
                x.take(0, -gain);
            }
            x.endDay();
        }
        return x;
    }

    private static void endDay() {
        CrowdSketches x = new CrowdSketches();
        Checks.same("promise 26: without names", x.endDay(), 0);
        Checks.count(x, "a", 5);
        Checks.count(x, "b", 7);
        Checks.same("promise 26: two names", x.endDay(), 12);
        x.take(0, 4);
        x.again(1, 1);
        Checks.same("promise 26: below 0", x.endDay(), -3);
        Checks.same("promise 26: nothing", x.endDay(), 0);
        Checks.same("promise 26: days", x.account(13), 4);
        Checks.same("promise 26: changes", x.account(12), 8);
        Checks.same("promise 26: the book stays", x.account(5), 9);
    }

    private static void gained() {
        CrowdSketches x = days(3, -1, 4);
        Checks.refusesUnchanged("promise 27: name 1", x, OUT, () -> x.gained(1, 0));
        Checks.refusesUnchanged("promise 27: name -1, day -1", x, OUT, () -> x.gained(-1, -1));
        Checks.refusesUnchanged("promise 27: day 3 of 3", x, NONE, () -> x.gained(0, 3));
        Checks.refusesUnchanged("promise 27: day -1", x, NONE, () -> x.gained(0, -1));
        Checks.same("promise 27: the latest", x.gained(0, 0), 4);
        Checks.same("promise 27: below 0", x.gained(0, 1), -1);
        Checks.same("promise 27: the first", x.gained(0, 2), 3);
        Checks.count(x, "b", 8);
        Checks.same("promise 27: known later", x.gained(1, 0), 0);
        x.endDay();
        Checks.same("promise 27: its first day", x.gained(1, 0), 8);
        Checks.same("promise 27: the day before", x.gained(1, 1), 0);
        x.endDay();
        Checks.same("promise 27: five are kept", x.gained(0, 4), 3);
        x.endDay();
        Checks.same("promise 27: the sixth is not", x.gained(0, 4), -1);
        Checks.refusesUnchanged("promise 27: day 5", x, NONE, () -> x.gained(0, 5));
        CrowdSketches y = days();
        Checks.refusesUnchanged("promise 27: no day was ended", y, NONE, () -> y.gained(0, 0));
        anotherNameInItsPlace();
    }

    private static void anotherNameInItsPlace() {
        CrowdSketches x = new CrowdSketches();
        x.endDay();
        Checks.count(x, "a", 5);
        x.endDay();
        x.undo();
        x.undo();
        Checks.count(x, "b", 3);
        Checks.same("promise 27: nothing of the name before", x.gained(0, 0), 0);
        Checks.same("promise 28: nothing of the name before", x.today(0), 3);
        Checks.same("promise 26: nothing of the name before", x.endDay(), 3);
    }

    private static void today() {
        CrowdSketches x = days();
        Checks.refusesUnchanged("promise 28: name 1", x, OUT, () -> x.today(1));
        Checks.refusesUnchanged("promise 28: name -1", x, OUT, () -> x.today(-1));
        x.again(0, 9);
        Checks.same("promise 28: no day was ended", x.today(0), 9);
        x.endDay();
        Checks.same("promise 28: a new day", x.today(0), 0);
        x.take(0, 2);
        Checks.same("promise 28: below 0", x.today(0), -2);
        Checks.count(x, "b", 6);
        Checks.same("promise 28: a new name", x.today(1), 6);
    }

    private static void busiest() {
        CrowdSketches x = new CrowdSketches();
        Checks.refusesUnchanged("promise 29: no day", x, NONE, x::busiest);
        x.endDay();
        Checks.same("promise 29: one day", x.busiest(), 0);
        Checks.same("promise 29: the greatest", days(1, 7, 3).busiest(), 1);
        Checks.same("promise 29: of several the latest", days(7, 1, 7, 3).busiest(), 1);
        Checks.same("promise 29: below 0", days(20, -5, -1, -3, -4, -2).busiest(), 3);
        Checks.same("promise 29: only what is kept", days(9, 1, 2, 1, 1, 1).busiest(), 3);
        CrowdSketches y = days(6);
        Checks.count(y, "b", 3);
        y.again(0, 4);
        y.endDay();
        Checks.same("promise 29: together", y.busiest(), 0);
    }

    private static void isRising() {
        Checks.same("promise 30: no day", days().isRising(0), true);
        Checks.same("promise 30: one day", days(0).isRising(0), true);
        Checks.same("promise 30: up", days(1, 2, 3).isRising(0), true);
        Checks.same("promise 30: the same", days(1, 2, 2).isRising(0), false);
        Checks.same("promise 30: down at first", days(3, 1, 2).isRising(0), false);
        Checks.same("promise 30: only what is kept", days(9, 1, 2, 3, 4, 5).isRising(0), true);
        Checks.same("promise 30: all that is kept", days(9, 1, 2, 3, 4).isRising(0), false);
        Checks.same("promise 30: below 0", days(5, -3, -1, 0, 1).isRising(0), false);
        Checks.same("promise 30: below 0, kept", days(9, -4, -3, -1, 0, 1).isRising(0), true);
        CrowdSketches x = days(2);
        Checks.refusesUnchanged("promise 30: name 1", x, OUT, () -> x.isRising(1));
        Checks.refusesUnchanged("promise 30: name -1", x, OUT, () -> x.isRising(-1));
    }

    private static void daysLine(String what, CrowdSketches x, String due) {
        Checks.same("promise 31: length, " + what, x.daysLine(0), due.length());
        Checks.same("promise 31: " + what, Checks.lineText(x), due);
    }

    private static void daysLine() {
        CrowdSketches x = days(12, -3);
        x.rowLine(0);
        daysLine("in place of the line before", x, "12 -3");
        daysLine("no day", days(), "");
        daysLine("one day", days(0), "0");
        daysLine("five are kept", days(99, 1, 0, 22, -23, 5), "1 0 22 -23 5");
        Checks.refusesUnchanged("promise 31: name 1", x, OUT, () -> x.daysLine(1));
        Checks.refusesUnchanged("promise 31: name -1", x, OUT, () -> x.daysLine(-1));
    }
}
