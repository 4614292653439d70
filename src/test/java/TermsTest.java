/** The sentences under "Terms" that tell how cells, guesses, errors and days are worked out, at their edges. */
public final class TermsTest {
    public static void main(String[] args) {
        cellOfEachLetter();
        cellWithEachSalt();
        cellWrapsAround();
        cellOfLongNames();
        guessIsTheLeast();
        carefulAtTheSum();
        takenFromEachRow();
        anewInTheirOrder();
        anewAllAtOnce();
        anewOneRowAlone();
        anewAllRows();
        boundIsRoundedDown();
        heavyAtEachShare();
        heavyLines();
        heavyByBookIsByGuess();
        daysOfLaterNames();
        namesInTheirOrder();
        Checks.end();
    }

    private static CrowdSketches counted(int salt, int cells, String... names) {
        CrowdSketches x = new CrowdSketches();
        Checks.answer(() -> x.salt(0, salt));
        Checks.answer(() -> x.resize(cells));
        for (String name : names) {
            Checks.count(x, name, 1);
        }
        return x;
    }

    private static void cellOfEachLetter() {
        for (int number = 1; number <= 26; number++) {
            String letter = "" + (char) ('a' + number - 1);
            Checks.same("the number of " + letter, counted(0, 16, letter).cellOf(0, 0), number % 16);
            Checks.same(letter + " ahead of another", counted(0, 16, letter + "a").cellOf(0, 0), (number * 7 + 1) % 16);
            Checks.same(letter + " in fewest cells", counted(99, 2, letter).cellOf(0, 0), number % 2);
        }
    }

    /** "bo" is 2 times the salt and 7, and 15. */
    private static void cellWithEachSalt() {
        CrowdSketches x = counted(0, 16, "bo");
        for (int salt = 0; salt <= 99; salt++) {
            CrowdSketches y = counted(salt, 16, "bo");
            Checks.same("bo with the salt " + salt, y.cellOf(0, 0), (2 * (salt + 7) + 15) % 16);
            Checks.answer(saltOf(x, salt));
            Checks.same("bo with the salt " + salt + " now", x.cellOf(0, 0), y.cellOf(0, 0));
            Checks.same("it counts there", x.cell(0, x.cellOf(0, 0)), 1);
        }
    }

    private static Checks.Call saltOf(CrowdSketches x, int salt) {
        return () -> x.salt(0, salt);
    }

    /** With the salt 13 "xr" is 498, so that the third letter makes it 9972, 9973, which is 0 then, and 1. */
    private static void cellWrapsAround() {
        CrowdSketches x = counted(13, 16, "xrl", "xrm", "xrn");
        Checks.same("9972", x.cellOf(0, 0), 9972 % 16);
        Checks.same("9973", x.cellOf(0, 1), 0);
        Checks.same("9974", x.cellOf(0, 2), 1);
        CrowdSketches y = counted(13, 16, "xrla", "xrma", "xrna");
        Checks.same("9972 and a letter", y.cellOf(0, 0), (9972 * 20 + 1) % 9973 % 16);
        Checks.same("9973 and a letter", y.cellOf(0, 1), 1);
        Checks.same("9974 and a letter", y.cellOf(0, 2), 21 % 16);
    }

    /** By hand: all six letters at once are 351252351606 with the salt 99, and 509808 with the salt 0. */
    private static void cellOfLongNames() {
        for (int cells = 2; cells <= 16; cells++) {
            Checks.same("zzzzzz, the salt 99", counted(99, cells, "zzzzzz").cellOf(0, 0),
                    (int) (351252351606L % 9973 % cells));
            Checks.same("zzzzzz, the salt 0", counted(0, cells, "zzzzzz").cellOf(0, 0), 509808 % 9973 % cells);
        }
    }

    /** Found by trying names: each of the first four has its least cell in another row. */
    private static void guessIsTheLeast() {
        CrowdSketches x = new CrowdSketches();
        Checks.read(x, "row 1;row 2;row 3;cells 4;count fc 5;count lk 6;count ey 7");
        Checks.read(x, "count nq 8;count jr 9;count wn 10");
        String[] cells = {"[16, 5, 0, 24]", "[0, 15, 19, 11]", "[9, 15, 7, 14]", "[10, 8, 9, 18]"};
        int[] guesses = {5, 11, 7, 8, 9, 10};
        int[] bestRows = {0, 1, 2, 3, 2, 3};
        for (int row = 0; row < cells.length; row++) {
            Checks.same("row " + row, Checks.cells(x, row), cells[row]);
        }
        for (int name = 0; name < guesses.length; name++) {
            Checks.same("guess for " + name, x.guess(name), guesses[name]);
            Checks.same("plain guess for " + name, x.plainGuess(name), guesses[name]);
            Checks.same("best row for " + name, x.bestRow(name), bestRows[name]);
            Checks.same("error of " + name, x.error(name), guesses[name] - 5 - name);
        }
    }

    private static void rows(String what, CrowdSketches x, String... due) {
        for (int row = 0; row < due.length; row++) {
            Checks.same(what + ": row " + row, Checks.cells(x, row), due[row]);
        }
        Checks.same(what + ": rows", x.account(0), due.length);
    }

    /** "ed" shares its cell with "bo" in row 0 of salt 0, and with "d" in row 1 of salt 5. */
    private static CrowdSketches carefulRows() {
        CrowdSketches x = new CrowdSketches();
        Checks.read(x, "cells 2;row 5;manner careful");
        return x;
    }

    private static void carefulAtTheSum() {
        int[] times = {11, 12, 13};
        String[] due = {"[0, 12]", "[0, 12]", "[0, 13]"};
        for (int i = 0; i < times.length; i++) {
            CrowdSketches x = carefulRows();
            Checks.count(x, "bo", 12);
            Checks.same("guess then", Checks.count(x, "ed", times[i]), times[i]);
            rows("a cell of 12 and a sum of " + times[i], x, due[i], "[" + times[i] + ", 12]");
        }
    }

    private static void takenFromEachRow() {
        CrowdSketches x = Checks.pair();
        x.row(5);
        Checks.same("taken back", x.take(1, 5), 0);
        rows("taken back", x, "[0, 12]", "[0, 12]", "[0, 12]");
        Checks.same("taken back, too", x.take(0, 11), 1);
        rows("taken back, too", x, "[0, 1]", "[0, 1]", "[0, 1]");
    }

    private static void anewInTheirOrder() {
        CrowdSketches x = carefulRows();
        Checks.read(x, "manner plain;count bo 12;count ed 5;count d 9");
        Checks.same("ed ahead of d", x.manner(true), 42);
        rows("ed ahead of d", x, "[9, 12]", "[9, 12]");
        CrowdSketches y = carefulRows();
        Checks.read(y, "manner plain;count bo 12;count d 9;count ed 5");
        Checks.same("d ahead of ed", y.manner(true), 49);
        rows("d ahead of ed", y, "[9, 14]", "[14, 12]");
    }

    private static CrowdSketches crossed() {
        CrowdSketches x = carefulRows();
        Checks.read(x, "count bo 12;count ed 5;count d 9;count ed 3");
        return x;
    }

    /** One after the other "ed" comes to 12 in both rows, at once to 8 in the second, which becomes 9 by "d". */
    private static void anewAllAtOnce() {
        CrowdSketches x = crossed();
        rows("one after the other", x, "[9, 12]", "[12, 12]");
        x.resize(16);
        x.resize(2);
        rows("all at once", x, "[9, 12]", "[9, 12]");
    }

    private static void anewOneRowAlone() {
        CrowdSketches x = crossed();
        Checks.same("a row is added", x.row(5), 2);
        rows("the new row is plain, the others stay", x, "[9, 12]", "[12, 12]", "[17, 12]");
        CrowdSketches y = crossed();
        y.salt(0, 5);
        rows("the row with another salt is plain, the other stays", y, "[17, 12]", "[12, 12]");
        y.undo();
        y.drop(0);
        rows("a row is dropped", y, "[12, 12]");
        Checks.same("it counts on carefully", y.again(2, 1), 13);
        rows("it counts on", y, "[13, 12]");
    }

    private static void anewAllRows() {
        CrowdSketches x = crossed();
        Checks.same("plain", x.manner(false), 58);
        rows("plain", x, "[9, 20]", "[17, 12]");
        Checks.same("careful", x.manner(true), 42);
        rows("careful", x, "[9, 12]", "[9, 12]");
        x.manner(false);
        x.resize(3);
        // "bo", "ed" and "d" are 29, 39 and 4 with the salt 0, and 39, 64 and 4 with the salt 5.
        rows("other cells", x, "[8, 9, 12]", "[12, 17, 0]");
    }

    private static void boundIsRoundedDown() {
        for (int cells = 2; cells <= 16; cells++) {
            CrowdSketches x = counted(0, cells, "a");
            for (int sum = 1; sum <= 2 * cells + 1; sum++) {
                Checks.same(sum + " in " + cells, x.bound(), sum < cells ? 0 : sum < 2 * cells ? 1 : 2);
                x.again(0, 1);
            }
        }
    }

    /** "a" is just the share, of which one more of "b" is too much: 100 counts for each percent of a hundred. */
    private static void heavyAtEachShare() {
        for (int share = 1; share <= 99; share++) {
            CrowdSketches x = new CrowdSketches();
            int percent = share;
            Checks.count(x, "a", share);
            Checks.answer(() -> Checks.count(x, "b", 100 - percent));
            Checks.answer(() -> x.share(percent));
            Checks.same("just " + share + " percent", x.heavy(true) & 1, 1);
            Checks.same("just " + share + " percent, by guess", x.heavy(false) & 1, 1);
            x.again(1, 1);
            Checks.same("less than " + share + " percent", x.heavy(true) & 1, 0);
            Checks.same("less than " + share + " percent, by guess", x.heavy(false) & 1, 0);
        }
    }

    private static void line(String what, CrowdSketches x, String due) {
        Checks.same(what, x.line(0), due.length());
        Checks.same(what, Checks.lineText(x), due);
    }

    /** The share is 10 percent; "a" and "i" share a cell, "b" makes the sum. */
    private static void heavyLines() {
        CrowdSketches x = new CrowdSketches();
        Checks.read(x, "count a 1;count i 3;count b 36");
        line("4 of 40 by guess", x, "a 4/1 h");
        x.again(2, 1);
        line("4 of 41 by guess", x, "a 4/1");
        CrowdSketches y = new CrowdSketches();
        Checks.read(y, "count a 4;count i 1;count b 35");
        line("4 of 40 by the book", y, "a 5/4 H");
        y.again(2, 1);
        line("4 of 41 by the book", y, "a 5/4 h");
        y.again(2, 9);
        line("5 of 50 by guess", y, "a 5/4 h");
        y.again(2, 1);
        line("5 of 51 by guess", y, "a 5/4");
    }

    private static void heavyByBookIsByGuess() {
        CrowdSketches[] crowds = {Checks.crowd(), crossed(), Checks.pair()};
        for (CrowdSketches x : crowds) {
            for (int i = 1; i <= 99; i++) {
                int share = i;
                Checks.answer(() -> x.share(share));
                Checks.same("heavy by the book alone at " + share, x.heavy(true) & ~x.heavy(false), 0);
            }
        }
    }

    private static void daysOfLaterNames() {
        CrowdSketches x = new CrowdSketches();
        for (int day = 0; day < 5; day++) {
            x.endDay();
            Checks.count(x, "abcde".substring(day, day + 1), 7);
        }
        for (int name = 0; name < 5; name++) {
            Checks.same("today of name " + name, x.today(name), name == 4 ? 7 : 0);
            for (int back = 0; back < 5; back++) {
                int due = name + back == 3 ? 7 : 0;
                Checks.same("name " + name + ", " + back + " days back", x.gained(name, back), due);
            }
        }
        Checks.same("the days on which one became known are alike", x.busiest(), 0);
        x.daysLine(1);
        Checks.same("the days of the second", Checks.lineText(x), "0 0 7 0 0");
    }

    private static void namesInTheirOrder() {
        CrowdSketches x = new CrowdSketches();
        Checks.read(x, "count zoe 1;count al 9;count zoe 99;count bo 1;take al 9");
        String[] due = {"zoe", "al", "bo"};
        Checks.same("al is at 0", x.booked(1), 0);
        for (int name = 0; name < due.length; name++) {
            Checks.type(x, due[name]);
            Checks.same("the number of " + due[name], x.named(), name);
            x.count(1);
        }
    }
}
