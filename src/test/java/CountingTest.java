import java.util.NoSuchElementException;

/** Promises 11 to 15: counting. */
public final class CountingTest {
    private static final Class<IllegalArgumentException> WRONG = IllegalArgumentException.class;
    private static final Class<IndexOutOfBoundsException> OUT = IndexOutOfBoundsException.class;
    private static final Class<UnsupportedOperationException> NOT_NOW = UnsupportedOperationException.class;
    private static final Class<NoSuchElementException> NONE = NoSuchElementException.class;

    public static void main(String[] args) {
        count();
        countOfWhatIsNoName();
        countRefused();
        countCarefully();
        again();
        take();
        takeCarefully();
        named();
        letter();
        Checks.end();
    }

    private static void count() {
        CrowdSketches x = new CrowdSketches();
        Checks.same("promise 11: one letter", Checks.count(x, "a", 1), 1);
        Checks.same("promise 11: six letters", Checks.count(x, "zzzzzy", 99), 99);
        Checks.same("promise 11: once more", Checks.count(x, "a", 4), 5);
        Checks.same("promise 11: the names", x.account(4), 2);
        Checks.same("promise 11: the book", x.booked(0) * 100 + x.booked(1), 599);
        Checks.same("promise 11: the input is empty", x.account(11), 0);
        Checks.same("promise 11: with a name in the same cell", Checks.count(x, "i", 2), 7);
        Checks.same("promise 11: the error of it", x.error(2), 5);
        Checks.same("promise 11: changes", x.account(12), 4);
    }

    private static void countOfWhatIsNoName() {
        String[] noNames = {"", "toolong", "A", "an na", "anna ", "a1", "\u00e9", "\u0161", "`", "{", "count a 5"};
        for (String text : noNames) {
            Checks.throwsAlone("promise 11: count of '" + text + "'", Checks::crowd, WRONG,
                    x -> Checks.count(x, text, 1));
        }
        int[] noTimes = {0, 100, -1, Integer.MAX_VALUE, Integer.MIN_VALUE};
        for (int times : noTimes) {
            Checks.throwsAlone("promise 11: count(" + times + ")", Checks::crowd, WRONG,
                    x -> Checks.count(x, "bo", times));
        }
    }

    private static void countRefused() {
        CrowdSketches x = new CrowdSketches();
        for (char c = 'a'; c <= 'j'; c++) {
            Checks.count(x, "" + c, 99);
        }
        Checks.type(x, "k");
        Checks.refuses("promise 11: an eleventh name", NOT_NOW, () -> x.count(5));
        Checks.refusal("promise 11: an eleventh name", x, 1, 10);
        Checks.same("promise 11: the input is empty", x.account(11), 0);
        Checks.type(x, "k");
        Checks.refuses("promise 11: the number comes first", WRONG, () -> x.count(100));
        Checks.same("promise 11: a known one", Checks.count(x, "j", 1), 199);
        for (int i = 0; i < 100; i++) {
            x.again(0, 98);
        }
        Checks.same("promise 11: near the most", x.booked(0), 9899);
        Checks.type(x, "a");
        x.count(99);
        Checks.type(x, "a");
        Checks.refuses("promise 11: too often", NOT_NOW, () -> x.count(99));
        Checks.refusal("promise 11: too often", x, 6, 98);
        Checks.same("promise 11: not counted", x.booked(0), 9998);
        Checks.same("promise 11: up to the most", Checks.count(x, "a", 1) - x.error(0), 9999);
        Checks.same("promise 11: still ten names", x.account(4), 10);
    }

    /** Row 0 has one cell for "bo" and "ed" together, row 1 one for each. */
    private static void countCarefully() {
        CrowdSketches x = new CrowdSketches();
        x.resize(2);
        x.row(5);
        x.manner(true);
        Checks.same("promise 11: careful, the first", Checks.count(x, "bo", 12), 12);
        Checks.same("promise 11: careful, the second", Checks.count(x, "ed", 5), 5);
        Checks.same("promise 11: what is not less stays", Checks.cells(x, 0), "[0, 12]");
        Checks.same("promise 11: what is less becomes the sum", Checks.cells(x, 1), "[5, 12]");
        Checks.same("promise 11: careful, once more", Checks.count(x, "ed", 9), 14);
        Checks.same("promise 11: row 0", Checks.cells(x, 0), "[0, 14]");
        Checks.same("promise 11: row 1", Checks.cells(x, 1), "[14, 12]");
        Checks.same("promise 11: careful, a third", Checks.count(x, "a", 1), 13);
        Checks.same("promise 11: its row 0", Checks.cells(x, 0), "[0, 14]");
        Checks.same("promise 11: its row 1", Checks.cells(x, 1), "[14, 13]");
    }

    private static void again() {
        CrowdSketches x = new CrowdSketches();
        Checks.refusesUnchanged("promise 12: no name", x, OUT, () -> x.again(0, 1));
        Checks.count(x, "a", 1);
        Checks.same("promise 12: once", x.again(0, 1), 2);
        Checks.same("promise 12: 99 times", x.again(0, 99), 101);
        Checks.type(x, "inputs");
        Checks.same("promise 12: the book", x.booked(0), 101);
        Checks.refusesUnchanged("promise 12: name 1", x, OUT, () -> x.again(1, 0));
        Checks.refusesUnchanged("promise 12: name -1", x, OUT, () -> x.again(-1, 5));
        Checks.refusesUnchanged("promise 12: 0 times", x, WRONG, () -> x.again(0, 0));
        Checks.refusesUnchanged("promise 12: 100 times", x, WRONG, () -> x.again(0, 100));
        for (int i = 0; i < 99; i++) {
            x.again(0, 99);
        }
        Checks.same("promise 12: 9902", x.booked(0), 9902);
        Checks.refuses("promise 12: too often", NOT_NOW, () -> x.again(0, 98));
        Checks.refusal("promise 12: too often", x, 6, 1);
        Checks.same("promise 12: the most", x.again(0, 97), 9999);
        Checks.refuses("promise 12: more than the most", NOT_NOW, () -> x.again(0, 99));
        Checks.refusal("promise 12: more than the most", x, 6, 99);
        Checks.same("promise 12: the input stays", x.account(11), 6);
    }

    private static void take() {
        Checks.throwsAlone("promise 13: no name", CrowdSketches::new, OUT, y -> y.take(0, 1));
        CrowdSketches x = new CrowdSketches();
        Checks.count(x, "a", 9);
        Checks.count(x, "i", 5);
        Checks.refusesUnchanged("promise 13: name 2", x, OUT, () -> x.take(2, 0));
        Checks.throwsAlone("promise 13: name -1", Checks::crowd, OUT, y -> y.take(-1, 1));
        Checks.refusesUnchanged("promise 13: 0 times", x, WRONG, () -> x.take(0, 0));
        Checks.refusesUnchanged("promise 13: 100 times", x, WRONG, () -> x.take(0, 100));
        Checks.same("promise 13: three", x.take(0, 3), 11);
        Checks.same("promise 13: the book", x.booked(0), 6);
        Checks.refuses("promise 13: too many", NOT_NOW, () -> x.take(0, 10));
        Checks.refusal("promise 13: too many", x, 5, 4);
        Checks.same("promise 13: all", x.take(0, 6), 5);
        Checks.same("promise 13: stays known", x.account(4), 2);
        Checks.same("promise 13: counts taken back", x.account(10), 9);
        Checks.refuses("promise 13: none is left", NOT_NOW, () -> x.take(0, 1));
        Checks.refusal("promise 13: none is left", x, 5, 1);
        Checks.same("promise 13: the cell", x.cell(0, 1), 5);
    }

    private static void takeCarefully() {
        CrowdSketches x = new CrowdSketches();
        Checks.count(x, "a", 9);
        Checks.count(x, "i", 5);
        x.manner(true);
        Checks.refuses("promise 13: careful comes before too many", NOT_NOW, () -> x.take(0, 99));
        Checks.refusal("promise 13: careful comes before too many", x, 4, 1);
        Checks.refusesUnchanged("promise 13: the name comes before careful", x, OUT, () -> x.take(2, 1));
        Checks.refusesUnchanged("promise 13: the number comes before careful", x, WRONG, () -> x.take(0, 100));
        x.manner(false);
        Checks.same("promise 13: plain again", x.take(1, 5), 9);
    }

    private static void named() {
        CrowdSketches x = new CrowdSketches();
        Checks.refusesUnchanged("promise 14: empty", x, NONE, x::named);
        Checks.count(x, "anna", 1);
        Checks.count(x, "bo", 1);
        Checks.refusesUnchanged("promise 14: empty, but names", x, NONE, x::named);
        Checks.type(x, "an");
        Checks.refusesUnchanged("promise 14: a part of a name", x, NONE, x::named);
        Checks.type(x, "na");
        Checks.same("promise 14: the first", x.named(), 0);
        Checks.same("promise 14: the input stays", x.account(11), 4);
        Checks.type(x, "a");
        Checks.refusesUnchanged("promise 14: more than a name", x, NONE, x::named);
        Checks.refuses("promise 14: an error empties", WRONG, x::read);
        Checks.type(x, "bo");
        Checks.same("promise 14: the second", x.named(), 1);
        x.append((char) ('a' + 256));
        Checks.refusesUnchanged("promise 14: another sign", x, NONE, x::named);
    }

    private static void letter() {
        CrowdSketches x = new CrowdSketches();
        Checks.refusesUnchanged("promise 15: no name", x, OUT, () -> x.letter(0, 9));
        Checks.count(x, "anna", 1);
        Checks.count(x, "zebras", 1);
        Checks.same("promise 15: anna", "" + x.letter(0, 0) + x.letter(0, 1) + x.letter(0, 3), "ana");
        Checks.same("promise 15: the sixth", x.letter(1, 5), 's');
        Checks.refusesUnchanged("promise 15: index 4 of 4", x, NONE, () -> x.letter(0, 4));
        Checks.refuses("promise 15: index 6 of 6", NONE, () -> x.letter(1, 6));
        Checks.refuses("promise 15: index -1", NONE, () -> x.letter(0, -1));
        Checks.refuses("promise 15: name 2", OUT, () -> x.letter(2, 0));
        Checks.refuses("promise 15: name -1, index -1", OUT, () -> x.letter(-1, -1));
    }
}
