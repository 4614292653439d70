import java.util.NoSuchElementException;

/** Each number that a call takes: one below its least, its least, its most, one above it, and far away. */
public final class BoundsTest {
    private static final Class<IllegalArgumentException> WRONG = IllegalArgumentException.class;
    private static final Class<IndexOutOfBoundsException> OUT = IndexOutOfBoundsException.class;
    private static final Class<NoSuchElementException> NONE = NoSuchElementException.class;

    /** A call that takes the number under test. */
    private interface Taking {
        Object of(CrowdSketches x, int number);
    }

    public static void main(String[] args) {
        saltsCellsAndShares();
        times();
        rows();
        cells();
        names();
        letters();
        characters();
        places();
        days();
        accounts();
        numbersInOrders();
        rowsInOrders();
        Checks.end();
    }

    /** Out of the range the call throws and nothing else happens; at its ends it answers what is due. */
    private static void range(String what, Checks.Maker maker, Class<? extends RuntimeException> due, Taking call,
            int least, Object atLeast, int most, Object atMost) {
        int[] outside = {least - 1, most + 1, Integer.MIN_VALUE, Integer.MAX_VALUE};
        for (int number : outside) {
            Checks.throwsAlone(what + " " + number, maker, due, x -> call.of(x, number));
        }
        within(what, maker, call, least, atLeast);
        within(what, maker, call, most, atMost);
    }

    private static void within(String what, Checks.Maker maker, Taking call, int number, Object due) {
        CrowdSketches x = maker.make();
        Checks.same(what + " " + number, Checks.answer(() -> call.of(x, number)), due);
    }

    private static void saltsCellsAndShares() {
        range("promise 2: salt", Checks::crowd, WRONG, CrowdSketches::row, 0, 2, 99, 2);
        range("promise 4: salt", Checks::crowd, WRONG, (x, salt) -> x.salt(1, salt), 0, 5, 99, 5);
        range("promise 5: cells", Checks::crowd, WRONG, CrowdSketches::resize, 2, 3, 16, 3);
        range("promise 7: share", Checks::crowd, WRONG, CrowdSketches::share, 1, 10, 99, 10);
        for (int salt = 0; salt <= 99; salt++) {
            CrowdSketches x = new CrowdSketches();
            Checks.same("promise 2: salt " + salt, x.row(salt), 1);
            Checks.same("promise 2: its line begins with " + salt, rowLine(x, 1), salt + ": 0 0 0 0 0 0 0 0");
        }
    }

    private static String rowLine(CrowdSketches x, int row) {
        x.rowLine(row);
        return Checks.lineText(x);
    }

    private static void times() {
        range("promise 11: times", Checks::crowd, WRONG, (x, times) -> Checks.count(x, "bo", times), 1, 12, 99, 110);
        range("promise 11: times of a new name", Checks::crowd, WRONG, (x, times) -> Checks.count(x, "b", times),
                1, 1, 99, 99);
        range("promise 12: times", Checks::typing, WRONG, (x, times) -> x.again(0, times), 1, 12, 99, 110);
        range("promise 13: times", BoundsTest::often, WRONG, (x, times) -> x.take(0, times), 1, 99, 99, 1);
    }

    /** "a" 100 times, so that 99 of them can be taken back. */
    private static CrowdSketches often() {
        CrowdSketches x = new CrowdSketches();
        Checks.count(x, "a", 99);
        x.again(0, 1);
        return x;
    }

    private static void rows() {
        range("promise 3: row", Checks::crowd, OUT, CrowdSketches::drop, 0, 1, 1, 1);
        range("promise 4: row", Checks::crowd, OUT, (x, row) -> x.salt(row, 7), 0, 0, 1, 5);
        range("promise 8: row", Checks::crowd, OUT, (x, row) -> x.cell(row, 2), 0, 11, 1, 0);
        range("promise 9: row", Checks::crowd, OUT, (x, row) -> x.cellOf(row, 1), 0, 0, 1, 1);
        range("promise 10: row", Checks::crowd, OUT, CrowdSketches::shared, 0, 0, 1, 0);
        range("promise 33: row", Checks::crowd, OUT, CrowdSketches::rowLine, 0, 9, 1, 9);
        range("promise 3: row of four", BoundsTest::fourRows, OUT, CrowdSketches::drop, 0, 3, 3, 3);
        range("promise 4: row of four", BoundsTest::fourRows, OUT, (x, row) -> x.salt(row, 7), 0, 0, 3, 99);
        range("promise 33: row of four", BoundsTest::fourRows, OUT, CrowdSketches::rowLine, 0, 34, 3, 35);
    }

    /** Four rows of sixteen cells. */
    private static CrowdSketches fourRows() {
        CrowdSketches x = new CrowdSketches();
        x.row(1);
        x.row(2);
        x.row(99);
        x.resize(16);
        return x;
    }

    private static void cells() {
        range("promise 8: cell of 3", Checks::crowd, OUT, (x, cell) -> x.cell(1, cell), 0, 11, 2, 0);
        range("promise 8: cell of 16", BoundsTest::fourRows, OUT, (x, cell) -> x.cell(3, cell), 0, 0, 15, 0);
        range("promise 8: cell of 8", CrowdSketches::new, OUT, (x, cell) -> x.cell(0, cell), 0, 0, 7, 0);
        CrowdSketches x = new CrowdSketches();
        x.resize(2);
        Checks.refuses("promise 8: cell 2 of 2", OUT, () -> x.cell(0, 2));
    }

    /** Two names, "bo" and "ed". */
    private static void names() {
        name("promise 9", (x, name) -> x.cellOf(0, name), 2, 0);
        name("promise 12", (x, name) -> x.again(name, 1), 12, 6);
        name("promise 13", (x, name) -> x.take(name, 1), 10, 4);
        name("promise 15", (x, name) -> x.letter(name, 0), 'b', 'e');
        name("promise 16", CrowdSketches::guess, 11, 5);
        name("promise 17", CrowdSketches::plainGuess, 11, 5);
        name("promise 18", CrowdSketches::booked, 11, 5);
        name("promise 19", CrowdSketches::error, 0, 0);
        name("promise 22", CrowdSketches::isWithin, true, true);
        name("promise 23", CrowdSketches::bestRow, 0, 0);
        name("promise 27", (x, name) -> x.gained(name, 0), -1, 0);
        name("promise 28", CrowdSketches::today, 0, 0);
        name("promise 30", CrowdSketches::isRising, false, false);
        name("promise 31", CrowdSketches::daysLine, 5, 3);
        name("promise 32", CrowdSketches::line, 10, 8);
    }

    private static void name(String what, Taking call, Object ofBo, Object ofEd) {
        range(what + ": name", Checks::typing, OUT, call, 0, ofBo, 1, ofEd);
        Checks.throwsAlone(what + ": name 0 of none", CrowdSketches::new, OUT, x -> call.of(x, 0));
        Checks.same(what + ": name 9 of ten", isThere(call, tenNames(), 9), true);
        Checks.refuses(what + ": name 10 of ten", OUT, () -> call.of(tenNames(), 10));
    }

    private static boolean isThere(Taking call, CrowdSketches x, int name) {
        return !"IndexOutOfBoundsException".equals(Checks.answer(() -> call.of(x, name)));
    }

    private static CrowdSketches tenNames() {
        CrowdSketches x = new CrowdSketches();
        for (char c = 'a'; c <= 'j'; c++) {
            Checks.count(x, "" + c, 3);
        }
        x.endDay();
        return x;
    }

    private static void letters() {
        range("promise 15: index of 2", Checks::crowd, NONE, (x, index) -> x.letter(0, index), 0, 'b', 1, 'o');
        range("promise 15: index of 6", () -> counted("abcdez"), NONE, (x, index) -> x.letter(0, index),
                0, 'a', 5, 'z');
        range("promise 15: index of 1", () -> counted("q"), NONE, (x, index) -> x.letter(0, index), 0, 'q', 0, 'q');
        for (int length = 0; length <= 8; length++) {
            CrowdSketches x = new CrowdSketches();
            Checks.type(x, "abcdefgh".substring(0, length));
            Object due = length >= 1 && length <= 6 ? (Object) 5 : "IllegalArgumentException";
            Checks.same("promise 11: a name of " + length, Checks.answer(() -> x.count(5)), due);
        }
        for (int sign = 0; sign < 700; sign++) {
            lettersAround((char) sign);
        }
    }

    /** The sign alone, first, in the middle and last of six. */
    private static void lettersAround(char sign) {
        boolean isLetter = sign >= 'a' && sign <= 'z';
        String[] texts = {"" + sign, sign + "bcdef", "abc" + sign + "ef", "abcde" + sign};
        for (String text : texts) {
            CrowdSketches x = new CrowdSketches();
            Checks.type(x, text);
            Object due = isLetter ? (Object) 5 : "IllegalArgumentException";
            Checks.same("promise 11: sign " + (int) sign + " in a name", Checks.answer(() -> x.count(5)), due);
            Checks.same("promise 11: names with sign " + (int) sign, x.account(4), isLetter ? 1 : 0);
        }
    }

    private static CrowdSketches counted(String name) {
        CrowdSketches x = new CrowdSketches();
        Checks.count(x, name, 5);
        return x;
    }

    private static void characters() {
        range("promise 34: index", Checks::crowd, OUT, CrowdSketches::character, 0, 'b', 9, 'H');
        Checks.throwsAlone("promise 34: index 0 of none", CrowdSketches::new, OUT, x -> x.character(0));
        Checks.throwsAlone("promise 34: index -1 of none", CrowdSketches::new, OUT, x -> x.character(-1));
    }

    private static void places() {
        range("promise 25: place of 2", Checks::typing, NONE, CrowdSketches::ranked, 0, 0, 1, 1);
        range("promise 25: place of 10", BoundsTest::tenNames, NONE, CrowdSketches::ranked, 0, 0, 9, 7);
        Checks.throwsAlone("promise 25: place 0 of none", CrowdSketches::new, NONE, x -> x.ranked(0));
    }

    private static void days() {
        for (int days = 1; days <= 7; days++) {
            int ended = days;
            int kept = Math.min(days, 5);
            // The day d, from 1 on, gained d counts.
            range("promise 27: day of " + days, () -> days(ended), NONE, (x, back) -> x.gained(0, back),
                    0, days, kept - 1, days - kept + 1);
        }
        Checks.throwsAlone("promise 27: day 0 of none", () -> days(0), NONE, x -> x.gained(0, 0));
    }

    private static CrowdSketches days(int many) {
        CrowdSketches x = new CrowdSketches();
        Checks.count(x, "a", 1);
        for (int day = 1; day <= many; day++) {
            x.endDay();
            x.again(0, day + 1);
        }
        return x;
    }

    private static void accounts() {
        range("promise 39: account", Checks::typing, WRONG, CrowdSketches::account, 0, 2, 13, 2);
    }

    /** At the ends the orders are carried out, beyond them their methods throw, and beyond 99 is no number. */
    private static void numbersInOrders() {
        order("count bo ", 1, 99);
        order("count new ", 1, 99);
        order("take bo ", 1, 11);
        order("row ", 0, 99);
        order("salt 1 ", 0, 99);
        order("cells ", 2, 16);
        order("share ", 1, 99);
        Checks.readIsRefused(Checks::crowd, "take bo 12", 5, 1);
        Checks.readIsRefused(Checks::crowd, "take bo 99", 5, 88);
        Checks.readThrows(Checks::crowd, "cells 17", -1);
        Checks.readThrows(Checks::crowd, "cells 99", -1);
    }

    private static void order(String words, int least, int most) {
        int[] ends = {least, most};
        for (int number : ends) {
            CrowdSketches x = Checks.crowd();
            Checks.same("promise 36: " + words + number, Checks.answer(() -> Checks.read(x, words + number)), 1);
            CrowdSketches y = Checks.crowd();
            String two = number < 10 ? "0" + number : "" + number;
            Checks.same("promise 36: " + words + two, Checks.answer(() -> Checks.read(y, words + two)), 1);
            Checks.same("promise 36: the same by both", Checks.changeable(x), Checks.changeable(y));
        }
        for (int number = 0; number < least; number++) {
            Checks.readThrows(Checks::crowd, words + number, -1);
            Checks.readThrows(Checks::crowd, words + "0" + number, -1);
        }
        Checks.readThrows(Checks::crowd, words + "100", words.length() + 2);
        Checks.readThrows(Checks::crowd, words + "001", words.length() + 2);
        Checks.readThrows(Checks::crowd, words + "-1", words.length());
        Checks.readThrows(Checks::crowd, words, words.length());
    }

    /** Of two rows: the digits 2 to 9 are no error of the text, but there is no such row. */
    private static void rowsInOrders() {
        for (int row = 0; row <= 9; row++) {
            String text = "salt " + row + " 7";
            if (row >= 2) {
                Checks.readThrows(Checks::crowd, text, -1);
            } else {
                CrowdSketches x = Checks.crowd();
                Checks.same("promise 36: " + text, Checks.answer(() -> Checks.read(x, text)), 1);
                Checks.same("promise 36: its row", rowLine(x, row).substring(0, 2), "7:");
            }
        }
        Checks.readThrows(Checks::crowd, "salt 00 7", 6);
        Checks.readThrows(Checks::crowd, "salt  7", 5);
        CrowdSketches four = fourRows();
        Checks.same("promise 36: row 3 of four", Checks.read(four, "salt 3 0"), 1);
        Checks.readThrows(BoundsTest::fourRows, "salt 4 0", -1);
    }
}
