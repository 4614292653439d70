import java.util.NoSuchElementException;

/** Nothing and a full house: of names, rows, input, counts, kept days and changes that can be undone. */
public final class HousesTest {
    private static final Class<IllegalArgumentException> WRONG = IllegalArgumentException.class;
    private static final Class<IllegalStateException> NOT_SO = IllegalStateException.class;
    private static final Class<NoSuchElementException> NONE = NoSuchElementException.class;

    public static void main(String[] args) {
        noNames();
        tenNames();
        tenNamesByOrders();
        tenNamesAreOneLessAgain();
        oneRow();
        fourRows();
        rowsOfFourDropped();
        noInput();
        sixtySigns();
        sixtySignsOfOrders();
        noCounts();
        mostCounts();
        noDays();
        fiveDays();
        sixthDay();
        noChanges();
        eightChanges();
        eightChangesAndMore();
        restoreForgetsEight();
        Checks.end();
    }

    private static void noNames() {
        CrowdSketches x = new CrowdSketches();
        Checks.throwsAlone("no names: worst", CrowdSketches::new, NONE, CrowdSketches::worst);
        Checks.throwsAlone("no names: ranked", CrowdSketches::new, NONE, y -> y.ranked(0));
        Checks.throwsAlone("no names: mean error", CrowdSketches::new, ArithmeticException.class,
                CrowdSketches::meanError);
        Checks.throwsAlone("no names: named", CrowdSketches::new, NONE, CrowdSketches::named);
        Checks.same("no names: bound", x.bound(), 0);
        Checks.same("no names: heavy by the book", x.heavy(true), 0);
        Checks.same("no names: heavy by guess", x.heavy(false), 0);
        Checks.same("no names: pairs", x.shared(0), 0);
        Checks.same("no names: well", x.isWell(), true);
        Checks.same("no names: full share", x.fullShare(), 0.0f);
        Checks.same("no names: save", x.save(), 0);
        Checks.same("no names: restore", x.restore(), 0);
        Checks.same("no names: a row", x.row(1), 1);
        Checks.same("no names: a salt", x.salt(1, 2), 1);
        Checks.same("no names: cells", x.resize(2), 8);
        Checks.same("no names: careful", x.manner(true), 0);
        Checks.same("no names: plain", x.manner(false), 0);
        Checks.same("no names: a day", x.endDay(), 0);
        Checks.same("no names: the busiest day", x.busiest(), 0);
        Checks.same("no names: well after all", x.isWell(), true);
    }

    /** "a" to "j", each counted 3 times; "a" and "i", "b" and "j" share a cell. */
    private static CrowdSketches ten() {
        CrowdSketches x = new CrowdSketches();
        for (char c = 'a'; c <= 'j'; c++) {
            Checks.count(x, "" + c, 3);
        }
        return x;
    }

    private static void tenNames() {
        CrowdSketches x = ten();
        Checks.same("ten names", x.account(4), 10);
        Checks.same("ten names: pairs", x.shared(0), 2);
        Checks.same("ten names: the last", x.letter(9, 0), 'j');
        Checks.same("ten names: the mean error", x.meanError(), 1.2);
        Checks.same("ten names: heavy by the book", x.heavy(true), 1023);
        Checks.same("ten names: save", x.save(), 10);
        Checks.same("ten names: a day", x.endDay(), 30);
        x.take(9, 1);
        Checks.same("ten names: another day", x.endDay(), -1);
        Checks.same("ten names: the busiest day", x.busiest(), 1);
        Checks.same("ten names: what the last gained", x.gained(9, 0), -1);
        x.undo();
        x.undo();
        Checks.isRefused("ten names: an eleventh", HousesTest::ten, 1, 10, y -> Checks.count(y, "k", 1));
        Checks.isRefused("ten names: one that begins alike", HousesTest::ten, 1, 10, y -> Checks.count(y, "aa", 1));
        for (char c = 'a'; c <= 'j'; c++) {
            Checks.same("ten names: " + c + " once more", Checks.count(x, "" + c, 96) > 98, true);
            Checks.same("ten names: by the book", x.booked(c - 'a'), 99);
        }
        Checks.same("ten names: all in a cell", tenInTwoCells(), 20);
    }

    /** Five of ten names in each of two cells are ten pairs each. */
    private static int tenInTwoCells() {
        CrowdSketches x = ten();
        x.resize(2);
        return x.shared(0);
    }

    private static void tenNamesByOrders() {
        Checks.readIsRefused(HousesTest::ten, "count k 1", 1, 10);
        Checks.readIsRefused(HousesTest::nine, "count j 1;count k 1", 1, 10);
        Checks.readIsRefused(HousesTest::nine, "count j 1;take j 1;count k 1", 1, 10);
        CrowdSketches x = nine();
        Checks.same("the tenth by an order", Checks.read(x, "count j 1;count j 2;count a 1"), 3);
        Checks.same("it is there", x.account(4), 10);
    }

    private static CrowdSketches nine() {
        CrowdSketches x = new CrowdSketches();
        for (char c = 'a'; c <= 'i'; c++) {
            Checks.count(x, "" + c, 3);
        }
        return x;
    }

    private static void tenNamesAreOneLessAgain() {
        CrowdSketches x = ten();
        x.take(9, 3);
        Checks.refuses("a name of which all is taken back stays", UnsupportedOperationException.class,
                () -> Checks.count(x, "k", 1));
        Checks.refusal("a name of which all is taken back stays", x, 1, 10);
        x.undo();
        x.undo();
        Checks.same("the tenth is undone", x.account(4), 9);
        Checks.same("another tenth", Checks.count(x, "k", 2), 5);
        Checks.same("it is in the place of the one before", x.letter(9, 0), 'k');
        Checks.type(x, "j");
        Checks.refuses("the one before is not known", NONE, x::named);
    }

    private static void oneRow() {
        Checks.isRefused("one row", CrowdSketches::new, 2, 1, x -> x.drop(0));
        Checks.isRefused("one row of three", HousesTest::threeDropped, 2, 1, x -> x.drop(0));
        Checks.throwsAlone("no row 1", HousesTest::threeDropped, IndexOutOfBoundsException.class, x -> x.rowLine(1));
        CrowdSketches x = threeDropped();
        Checks.same("one row: another one is row 1", x.row(9), 1);
        Checks.same("one row: and can be dropped", x.drop(1), 1);
    }

    private static CrowdSketches threeDropped() {
        CrowdSketches x = new CrowdSketches();
        Checks.count(x, "bo", 5);
        x.row(1);
        x.row(2);
        x.drop(1);
        x.drop(0);
        return x;
    }

    private static CrowdSketches four() {
        CrowdSketches x = new CrowdSketches();
        Checks.count(x, "bo", 5);
        x.row(11);
        x.row(22);
        x.row(33);
        return x;
    }

    private static void fourRows() {
        Checks.isRefused("four rows", HousesTest::four, 1, 4, x -> x.row(44));
        Checks.readIsRefused(HousesTest::four, "row 44", 1, 4);
        Checks.readIsRefused(CrowdSketches::new, "row 1;row 2;row 3;row 4", 1, 4);
        CrowdSketches x = new CrowdSketches();
        Checks.same("four rows by orders", Checks.read(x, "row 1;row 2;row 3"), 3);
        Checks.same("all four", x.account(0), 4);
        CrowdSketches y = four();
        Checks.same("four rows: a salt", y.salt(3, 0), 33);
        Checks.same("four rows: one is dropped", y.drop(2), 3);
        Checks.same("four rows: another one", y.row(44), 3);
        Checks.same("four rows: their cells", y.account(6), 20);
    }

    private static void rowsOfFourDropped() {
        String[] due = {"11:22:33:", "0:22:33:", "0:11:33:", "0:11:22:"};
        for (int row = 0; row < due.length; row++) {
            CrowdSketches x = four();
            Checks.same("row " + row + " of four is dropped", x.drop(row), 3);
            Checks.same("the others", Checks.salts(x), due[row]);
            for (int i = 0; i < 3; i++) {
                Checks.same("row " + i + " still counts", x.cell(i, x.cellOf(i, 0)), 5);
            }
            x.undo();
            Checks.same("row " + row + " is there again", Checks.salts(x), "0:11:22:33:");
        }
    }

    private static void noInput() {
        Checks.throwsAlone("no input: count", CrowdSketches::new, WRONG, x -> x.count(1));
        Checks.throwsAlone("no input: named", Checks::crowd, NONE, CrowdSketches::named);
        Checks.readThrows(Checks::crowd, "", 0);
        Checks.same("no input", new CrowdSketches().account(11), 0);
    }

    private static CrowdSketches sixty() {
        CrowdSketches x = Checks.crowd();
        Checks.type(x, "ed".repeat(30));
        return x;
    }

    private static void sixtySigns() {
        Checks.throwsAlone("sixty signs", HousesTest::sixty, NOT_SO, x -> x.append('d'));
        Checks.same("sixty signs", sixty().account(11), 60);
        CrowdSketches x = Checks.crowd();
        Checks.same("fifty-nine signs", Checks.type(x, "x".repeat(59)), 59);
        Checks.same("the sixtieth", x.append('y'), 60);
        Checks.refuses("the sixty-first", NOT_SO, () -> x.append('z'));
        Checks.refuses("no name", WRONG, () -> x.count(1));
        Checks.same("count empties it", x.account(11), 0);
        Checks.same("and it can be filled once more", Checks.type(x, "x".repeat(60)), 60);
        Checks.refuses("no orders", WRONG, x::read);
        Checks.same("read empties it", x.append('a'), 1);
    }

    private static void sixtySignsOfOrders() {
        String text = "row 10;row 20;row 30;salt 3 44;cells 16;share 50;count abc 9";
        CrowdSketches x = new CrowdSketches();
        Checks.same("a text of sixty signs", Checks.type(x, text), 60);
        Checks.same("its orders", x.read(), 7);
        Checks.same("all of them", Checks.salts(x) + x.account(1) + x.account(3) + x.booked(0), "0:10:20:44:16509");
        Checks.readThrows(CrowdSketches::new, text.substring(0, 59) + ";", 59);
        Checks.readThrows(CrowdSketches::new, text.substring(0, 57) + " 9;", 60);
        Checks.readThrows(CrowdSketches::new, text.substring(0, 59) + "x", 59);
    }

    private static CrowdSketches taken() {
        CrowdSketches x = new CrowdSketches();
        Checks.count(x, "a", 9);
        Checks.count(x, "i", 4);
        x.take(0, 9);
        x.take(1, 4);
        return x;
    }

    private static void noCounts() {
        Checks.isRefused("no counts", HousesTest::taken, 5, 1, x -> x.take(0, 1));
        Checks.isRefused("no counts, many", HousesTest::taken, 5, 99, x -> x.take(1, 99));
        CrowdSketches x = taken();
        Checks.same("no counts: the names", x.account(4), 2);
        Checks.same("no counts: the book", x.account(5), 0);
        Checks.same("no counts: the cells", x.account(7), 8);
        Checks.same("no counts: the guess", x.guess(0) + x.plainGuess(0) + x.error(0), 0);
        Checks.same("no counts: names share cells all the same", x.shared(0), 1);
        Checks.same("no counts: none is heavy", x.heavy(true) + x.heavy(false), 0);
        Checks.same("no counts: the worst", x.worst(), 0);
        Checks.same("no counts: the first place", x.ranked(0), 0);
        Checks.same("no counts: the mean error", x.meanError(), 0.0);
        Checks.same("no counts: the share of full cells", x.fullShare(), 0.0f);
        x.line(1);
        Checks.same("no counts: the line", Checks.lineText(x), "i 0/0");
        Checks.same("no counts: carefully", x.manner(true), 0);
        Checks.same("no counts: one more", x.again(1, 1), 1);
        Checks.same("no counts: of the other one", x.guess(0), 1);
    }

    private static CrowdSketches most() {
        CrowdSketches x = new CrowdSketches();
        Checks.count(x, "a", 99);
        for (int i = 0; i < 100; i++) {
            x.again(0, 99);
        }
        return x;
    }

    private static void mostCounts() {
        Checks.same("most counts", most().booked(0), 9999);
        Checks.isRefused("most counts: one more", HousesTest::most, 6, 1, x -> x.again(0, 1));
        Checks.isRefused("most counts: 99 more", HousesTest::most, 6, 99, x -> x.again(0, 99));
        Checks.isRefused("most counts: by its name", HousesTest::most, 6, 7, x -> Checks.count(x, "a", 7));
        Checks.readIsRefused(HousesTest::most, "count a 99", 6, 99);
        Checks.readIsRefused(HousesTest::most, "take a 5;count a 6", 6, 1);
        CrowdSketches x = most();
        Checks.same("most counts: another name in its cell", Checks.count(x, "i", 99), 10098);
        Checks.same("most counts: some are taken back", x.take(0, 99), 9999);
        Checks.same("most counts: and counted again", x.again(0, 99), 10098);
        Checks.same("most counts: by an order", Checks.read(x, "take a 5;count a 5"), 2);
        Checks.refuses("most counts: again one more", UnsupportedOperationException.class, () -> x.again(0, 1));
        x.manner(true);
        Checks.refuses("most counts: carefully", UnsupportedOperationException.class, () -> x.again(0, 2));
        Checks.refusal("most counts: carefully", x, 6, 2);
    }

    /** Counts of "a", one each day, from 1 on. */
    private static CrowdSketches days(int many) {
        CrowdSketches x = new CrowdSketches();
        Checks.count(x, "a", 1);
        for (int day = 1; day <= many; day++) {
            x.endDay();
            x.again(0, day + 1);
        }
        return x;
    }

    private static String daysLine(CrowdSketches x) {
        x.daysLine(0);
        return Checks.lineText(x);
    }

    private static void noDays() {
        CrowdSketches x = days(0);
        Checks.throwsAlone("no days: busiest", () -> days(0), NONE, CrowdSketches::busiest);
        Checks.throwsAlone("no days: gained", () -> days(0), NONE, y -> y.gained(0, 0));
        Checks.same("no days: rising", x.isRising(0), true);
        Checks.same("no days: today", x.today(0), 1);
        Checks.same("no days: the line is empty", x.daysLine(0), 0);
        Checks.refuses("no days: no sign of it", IndexOutOfBoundsException.class, () -> x.character(0));
        Checks.same("no days: ended", x.account(13), 0);
        x.endDay();
        x.undo();
        Checks.refuses("no days after undo", NONE, x::busiest);
    }

    private static void fiveDays() {
        CrowdSketches x = days(5);
        Checks.same("five days", daysLine(x), "1 2 3 4 5");
        Checks.same("five days: the first", x.gained(0, 4), 1);
        Checks.same("five days: rising", x.isRising(0), true);
        Checks.same("five days: the busiest", x.busiest(), 0);
        Checks.same("one day", daysLine(days(1)), "1");
        Checks.same("one day: rising", days(1).isRising(0), true);
        Checks.same("one day: the busiest", days(1).busiest(), 0);
    }

    private static void sixthDay() {
        CrowdSketches x = days(5);
        x.save();
        Checks.same("a sixth day", x.endDay(), 6);
        Checks.same("a sixth day: the first is forgotten", daysLine(x), "2 3 4 5 6");
        Checks.same("a sixth day: ended", x.account(13), 6);
        x.undo();
        Checks.same("undo brings the first day back", daysLine(x), "1 2 3 4 5");
        x.endDay();
        x.endDay();
        Checks.same("a seventh day", daysLine(x), "3 4 5 6 0");
        Checks.same("a seventh day: no longer rising", x.isRising(0), false);
        x.restore();
        Checks.same("restore brings the first days back", daysLine(x), "1 2 3 4 5");
        Checks.same("restore brings today back", x.today(0), 6);
    }

    private static void noChanges() {
        Checks.throwsAlone("no changes", CrowdSketches::new, NOT_SO, CrowdSketches::undo);
        Checks.throwsAlone("no snapshot", CrowdSketches::new, NOT_SO, CrowdSketches::restore);
        CrowdSketches x = new CrowdSketches();
        x.share(5);
        Checks.same("one change", x.undo(), 0);
        Checks.refuses("no change is left", NOT_SO, x::undo);
        Checks.refuses("no snapshot was taken by it", NOT_SO, x::restore);
    }

    /** The shares 11, 12, and so on. */
    private static CrowdSketches shares(int many) {
        CrowdSketches x = new CrowdSketches();
        for (int i = 1; i <= many; i++) {
            x.share(10 + i);
        }
        return x;
    }

    private static void undoAll(String what, CrowdSketches x, int changes, int share) {
        for (int left = changes - 1; left >= 0; left--) {
            Checks.same(what + ": " + left + " are left", x.undo(), left);
            Checks.same(what + ": the account of it", x.account(12), left);
            Checks.same(what + ": the share with " + left + " left", x.account(3), share - changes + left);
        }
        Checks.refuses(what + ": none is left", NOT_SO, x::undo);
        Checks.same(what + ": the share then", x.account(3), share - changes);
    }

    private static void eightChanges() {
        for (int changes = 1; changes <= 18; changes++) {
            int kept = Math.min(changes, 8);
            CrowdSketches x = shares(changes);
            Checks.same(changes + " changes: can be undone", x.account(12), kept);
            undoAll(changes + " changes", x, kept, 10 + changes);
        }
    }

    /** A change that is refused does not push the earliest one out, and one after an undo takes its place. */
    private static void eightChangesAndMore() {
        CrowdSketches x = shares(8);
        Checks.answer(() -> x.share(18));
        Checks.answer(() -> x.share(100));
        Checks.answer(() -> Checks.read(x, "share 3;share 18;share"));
        Checks.answer(() -> Checks.count(x, "A", 1));
        undoAll("eight changes and some that failed", x, 8, 18);
        CrowdSketches y = shares(8);
        y.undo();
        y.undo();
        y.share(17);
        y.share(18);
        Checks.same("eight changes, two of them anew", y.account(12), 8);
        y.share(19);
        Checks.same("a ninth", y.account(12), 8);
        int[] due = {18, 17, 16, 15, 14, 13, 12, 11};
        for (int share : due) {
            y.undo();
            Checks.same("undone one by one", y.account(3), share);
        }
        Checks.refuses("the first cannot be undone", NOT_SO, y::undo);
    }

    private static void restoreForgetsEight() {
        CrowdSketches x = shares(8);
        x.save();
        Checks.same("save forgets nothing", x.account(12), 8);
        x.restore();
        Checks.same("restore forgets all", x.account(12), 0);
        Checks.refuses("restore forgets all", NOT_SO, x::undo);
        for (int i = 1; i <= 9; i++) {
            x.share(18 + i);
        }
        undoAll("nine changes after restore", x, 8, 27);
    }
}
