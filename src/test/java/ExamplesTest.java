/** The examples of the document, as they stand there. */
public final class ExamplesTest {
    public static void main(String[] args) {
        countedWords();
        twoManners();
        refusedByNew();
        Checks.end();
    }

    private static void countedWords() {
        CrowdSketches x = new CrowdSketches();
        Checks.same("append bo", Checks.type(x, "bo"), 2);
        Checks.same("count(5)", x.count(5), 5);
        Checks.same("append ed", Checks.type(x, "ed"), 2);
        Checks.same("count(12)", x.count(12), 12);
        Checks.same("resize(2)", x.resize(2), 8);
        Checks.same("shared(0)", x.shared(0), 1);
        Checks.same("guess(0)", x.guess(0), 17);
        Checks.same("error(0)", x.error(0), 12);
        Checks.same("row(5)", x.row(5), 1);
        Checks.same("line(1)", x.line(1), 10);
        Checks.same("take(1, 3)", x.take(1, 3), 9);
        Checks.same("heavy(true)", x.heavy(true), 3);
        Checks.same("isWell()", x.isWell(), true);
        Checks.same("rowLine(1)", x.rowLine(1), 6);
    }

    private static void twoManners() {
        CrowdSketches x = new CrowdSketches();
        Checks.same("append a", x.append('a'), 1);
        Checks.same("count(9)", x.count(9), 9);
        Checks.same("row(3)", x.row(3), 1);
        Checks.same("manner(true)", x.manner(true), 18);
        Checks.same("again(0, 4)", x.again(0, 4), 13);
        Checks.same("guess(0)", x.guess(0), 13);
        Checks.same("plainGuess(0)", x.plainGuess(0), 13);
        Checks.refuses("take(0, 1)", UnsupportedOperationException.class, () -> x.take(0, 1));
        Checks.same("refusal(true)", x.refusal(true), 1);
        Checks.same("bestRow(0)", x.bestRow(0), 0);
        Checks.same("salt(1, 8)", x.salt(1, 8), 3);
        Checks.same("worst()", x.worst(), 0);
        Checks.same("bound()", x.bound(), 1);
        Checks.same("isWithin(0)", x.isWithin(0), true);
        Checks.same("meanError()", x.meanError(), 0.0);
        Checks.same("fullShare()", x.fullShare(), 0.125f);
    }

    private static void refusedByNew() {
        CrowdSketches x = new CrowdSketches();
        Checks.refuses("drop(0)", UnsupportedOperationException.class, () -> x.drop(0));
        Checks.refuses("row(100)", IllegalArgumentException.class, () -> x.row(100));
        Checks.refuses("named()", java.util.NoSuchElementException.class, x::named);
        Checks.refuses("ranked(0)", java.util.NoSuchElementException.class, () -> x.ranked(0));
        Checks.same("refusal(false)", x.refusal(false), 2);
        Checks.refuses("read()", IllegalArgumentException.class, x::read);
        Checks.same("errorPosition()", x.errorPosition(), 0);
        Checks.refuses("undo()", IllegalStateException.class, x::undo);
        Checks.refuses("restore()", IllegalStateException.class, x::restore);
    }
}
