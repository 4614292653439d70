import java.util.NoSuchElementException;

/** Each reason for a refusal with its detail, and the order in which exceptions and reasons apply. */
public final class ReasonsTest {
    private static final Class<IllegalArgumentException> WRONG = IllegalArgumentException.class;
    private static final Class<IndexOutOfBoundsException> OUT = IndexOutOfBoundsException.class;
    private static final Class<NoSuchElementException> NONE = NoSuchElementException.class;
    private static final Class<UnsupportedOperationException> NOT_NOW = UnsupportedOperationException.class;

    public static void main(String[] args) {
        fourRowsOrTenNames();
        oneRowAlone();
        soAlready();
        soAlreadyOnlyThen();
        carefulManner();
        notCountedSoOften();
        moreThanTheMost();
        orderForRows();
        orderForCounts();
        orderForTakes();
        orderForTells();
        orderInTexts();
        firstOrderDecides();
        latestRefusal();
        refusalStays();
        Checks.end();
    }

    private static CrowdSketches fourRows() {
        CrowdSketches x = Checks.crowd();
        x.row(1);
        x.row(2);
        return x;
    }

    /** "a" to "j", each counted once. */
    private static CrowdSketches tenNames() {
        CrowdSketches x = new CrowdSketches();
        for (char c = 'a'; c <= 'j'; c++) {
            Checks.count(x, "" + c, 1);
        }
        return x;
    }

    private static CrowdSketches careful() {
        CrowdSketches x = Checks.crowd();
        x.manner(true);
        return x;
    }

    /** "a" so often that it can be counted 4 times more. */
    private static CrowdSketches often() {
        CrowdSketches x = new CrowdSketches();
        Checks.count(x, "a", 95);
        for (int i = 0; i < 100; i++) {
            x.again(0, 99);
        }
        return x;
    }

    private static CrowdSketches alone() {
        CrowdSketches x = Checks.crowd();
        x.drop(0);
        return x;
    }

    private static void fourRowsOrTenNames() {
        Checks.isRefused("reason 1: a fifth row", ReasonsTest::fourRows, 1, 4, x -> x.row(0));
        Checks.readIsRefused(ReasonsTest::fourRows, "row 0", 1, 4);
        Checks.isRefused("reason 1: an eleventh name", ReasonsTest::tenNames, 1, 10, x -> Checks.count(x, "k", 99));
        Checks.readIsRefused(ReasonsTest::tenNames, "count k 99", 1, 10);
        Checks.same("reason 1 is not for a known name", Checks.count(tenNames(), "j", 99), 101);
        Checks.same("reason 1 is not for again", tenNames().again(9, 99), 101);
        Checks.same("reason 1 is not for four rows and a name", Checks.count(fourRows(), "new", 1) > 0, true);
        Checks.same("reason 1 is not for ten names and a row", tenNames().row(0), 1);
    }

    private static void oneRowAlone() {
        Checks.isRefused("reason 2", ReasonsTest::alone, 2, 1, x -> x.drop(0));
        Checks.same("reason 2 is not for two rows", Checks.crowd().drop(0), 1);
        Checks.same("reason 2 is not for four rows", fourRows().drop(0), 3);
    }

    private static void soAlready() {
        Checks.isRefused("reason 3: the salt of row 0", Checks::crowd, 3, 0, x -> x.salt(0, 0));
        Checks.isRefused("reason 3: the salt of row 1", Checks::crowd, 3, 5, x -> x.salt(1, 5));
        Checks.isRefused("reason 3: the cells", Checks::crowd, 3, 3, x -> x.resize(3));
        Checks.isRefused("reason 3: the share", Checks::crowd, 3, 10, x -> x.share(10));
        Checks.isRefused("reason 3: the plain manner", Checks::crowd, 3, 0, x -> x.manner(false));
        Checks.isRefused("reason 3: the careful manner", ReasonsTest::careful, 3, 1, x -> x.manner(true));
        Checks.isRefused("reason 3: the first cells", CrowdSketches::new, 3, 8, x -> x.resize(8));
        Checks.readIsRefused(Checks::crowd, "salt 0 0", 3, 0);
        Checks.readIsRefused(Checks::crowd, "salt 1 05", 3, 5);
        Checks.readIsRefused(Checks::crowd, "cells 3", 3, 3);
        Checks.readIsRefused(Checks::crowd, "cells 03", 3, 3);
        Checks.readIsRefused(Checks::crowd, "share 10", 3, 10);
        Checks.readIsRefused(Checks::crowd, "manner plain", 3, 0);
        Checks.readIsRefused(ReasonsTest::careful, "manner careful", 3, 1);
    }

    /** What another row has, or what was so before, is not so already. */
    private static void soAlreadyOnlyThen() {
        Checks.same("reason 3 is not for another row's salt", Checks.crowd().salt(1, 0), 5);
        Checks.same("reason 3 is not for a new row's salt", Checks.crowd().row(5), 2);
        CrowdSketches x = Checks.crowd();
        x.share(20);
        Checks.same("reason 3 is not for the share before", x.share(10), 20);
        Checks.isRefused("reason 3: after a change", ReasonsTest::saltedAnew, 3, 9, y -> y.salt(1, 9));
        Checks.isRefused("reason 3: after a drop", ReasonsTest::alone, 3, 5, y -> y.salt(0, 5));
        x.undo();
        x.undo();
        Checks.refuses("reason 3: after undo", NOT_NOW, () -> x.share(10));
        Checks.refusal("reason 3: after undo", x, 3, 10);
    }

    private static CrowdSketches saltedAnew() {
        CrowdSketches x = Checks.crowd();
        x.salt(1, 9);
        return x;
    }

    private static void carefulManner() {
        Checks.isRefused("reason 4", ReasonsTest::careful, 4, 1, x -> x.take(0, 1));
        Checks.isRefused("reason 4: of all counts", ReasonsTest::careful, 4, 1, x -> x.take(0, 11));
        Checks.readIsRefused(ReasonsTest::careful, "take ed 5", 4, 1);
        CrowdSketches x = careful();
        x.manner(false);
        Checks.same("reason 4 is not for the plain manner", x.take(0, 11), 0);
        Checks.same("reason 4 is not for counts", careful().again(0, 1), 12);
    }

    private static void notCountedSoOften() {
        Checks.isRefused("reason 5: one is missing", Checks::crowd, 5, 1, x -> x.take(0, 12));
        Checks.isRefused("reason 5: many are missing", Checks::crowd, 5, 94, x -> x.take(1, 99));
        Checks.readIsRefused(Checks::crowd, "take ed 6", 5, 1);
        Checks.readIsRefused(Checks::crowd, "take bo 6;take bo 6", 5, 1);
        Checks.same("reason 5 is not for just as many", Checks.crowd().take(1, 5), 0);
        // The cell of "a" counts 9 then, but the book tells 4.
        Checks.isRefused("reason 5 is for the book, not for the cell", ReasonsTest::together, 5, 1, x -> x.take(0, 5));
        Checks.same("reason 5 is not for just the book", together().take(0, 4), 5);
    }

    /** "a" 4 times and "i" 5 times, in one cell. */
    private static CrowdSketches together() {
        CrowdSketches x = new CrowdSketches();
        Checks.count(x, "a", 4);
        Checks.count(x, "i", 5);
        return x;
    }

    private static void moreThanTheMost() {
        Checks.isRefused("reason 6: by one", ReasonsTest::often, 6, 1, x -> x.again(0, 5));
        Checks.isRefused("reason 6: by many", ReasonsTest::often, 6, 95, x -> x.again(0, 99));
        Checks.isRefused("reason 6: of count", ReasonsTest::often, 6, 1, x -> Checks.count(x, "a", 5));
        Checks.readIsRefused(ReasonsTest::often, "count a 5", 6, 1);
        Checks.readIsRefused(ReasonsTest::often, "count a 4;count a 4", 6, 4);
        Checks.same("reason 6 is not for just the most", often().again(0, 4), 9999);
        Checks.same("reason 6 is not for just the most, by count", Checks.count(often(), "a", 4), 9999);
        CrowdSketches x = often();
        Checks.same("reason 6 is for the book, not for the cell", Checks.count(x, "i", 99), 10094);
        Checks.same("reason 6 is not for what was taken back", x.take(0, 99) + x.again(0, 99), 9995 + 10094);
    }

    private static void orderForRows() {
        Checks.throwsAlone("row: range before reason 1", ReasonsTest::fourRows, WRONG, x -> x.row(100));
        Checks.throwsAlone("row: range before reason 1, below", ReasonsTest::fourRows, WRONG, x -> x.row(-1));
        Checks.throwsAlone("drop: row before reason 2", ReasonsTest::alone, OUT, x -> x.drop(1));
        Checks.throwsAlone("drop: row before reason 2, below", ReasonsTest::alone, OUT, x -> x.drop(-1));
        Checks.throwsAlone("salt: row before range", Checks::crowd, OUT, x -> x.salt(2, 100));
        Checks.throwsAlone("salt: row before range, below", Checks::crowd, OUT, x -> x.salt(-1, -1));
        Checks.throwsAlone("salt: row before what is so in others", Checks::crowd, OUT, x -> x.salt(2, 5));
    }

    private static void orderForCounts() {
        Checks.throwsAlone("count: range before reason 1", ReasonsTest::tenNames, WRONG, x -> Checks.count(x, "k", 0));
        Checks.throwsAlone("count: range before reason 1, above", ReasonsTest::tenNames, WRONG,
                x -> Checks.count(x, "k", 100));
        Checks.throwsAlone("count: no name before reason 1", ReasonsTest::tenNames, WRONG,
                x -> Checks.count(x, "toolong", 1));
        Checks.throwsAlone("count: range before reason 6", ReasonsTest::often, WRONG, x -> Checks.count(x, "a", 100));
        Checks.throwsAlone("again: name before range", Checks::typing, OUT, x -> x.again(2, 0));
        Checks.throwsAlone("again: name before range, below", Checks::typing, OUT, x -> x.again(-1, 100));
        Checks.throwsAlone("again: range before reason 6", ReasonsTest::often, WRONG, x -> x.again(0, 100));
        Checks.throwsAlone("again: name before reason 6", ReasonsTest::often, OUT, x -> x.again(1, 99));
    }

    private static void orderForTakes() {
        Checks.throwsAlone("take: name before range", Checks::typing, OUT, x -> x.take(2, 0));
        Checks.throwsAlone("take: name before range, below", Checks::typing, OUT, x -> x.take(-1, 100));
        Checks.throwsAlone("take: name before reason 4", ReasonsTest::careful, OUT, x -> x.take(2, 1));
        Checks.throwsAlone("take: range before reason 4", ReasonsTest::careful, WRONG, x -> x.take(0, 0));
        Checks.throwsAlone("take: range before reason 4, above", ReasonsTest::careful, WRONG, x -> x.take(0, 100));
        Checks.throwsAlone("take: range before reason 5", Checks::crowd, WRONG, x -> x.take(0, 100));
        Checks.isRefused("take: reason 4 before 5", ReasonsTest::careful, 4, 1, x -> x.take(0, 12));
        Checks.isRefused("take: reason 4 before 5, by many", ReasonsTest::careful, 4, 1, x -> x.take(1, 99));
    }

    private static void orderForTells() {
        Checks.throwsAlone("letter: name before index", Checks::typing, OUT, x -> x.letter(2, 2));
        Checks.throwsAlone("letter: name before index, below", Checks::typing, OUT, x -> x.letter(-1, -1));
        Checks.throwsAlone("letter: index", Checks::typing, NONE, x -> x.letter(1, 2));
        Checks.throwsAlone("gained: name before day", Checks::typing, OUT, x -> x.gained(2, 2));
        Checks.throwsAlone("gained: name before day, below", Checks::typing, OUT, x -> x.gained(-1, -1));
        Checks.throwsAlone("gained: day", Checks::typing, NONE, x -> x.gained(1, 2));
        Checks.throwsAlone("gained: name before no days", ReasonsTest::tenNames, OUT, x -> x.gained(10, 0));
        Checks.throwsAlone("cellOf: row and name", Checks::typing, OUT, x -> x.cellOf(2, 2));
        Checks.throwsAlone("cell: row and cell", Checks::typing, OUT, x -> x.cell(2, 3));
    }

    /** An order is as its method: the name and the row first, then the range, and the reasons last. */
    private static void orderInTexts() {
        Checks.readThrows(ReasonsTest::careful, "take anna 1", -1);
        Checks.readThrows(ReasonsTest::careful, "take anna 0", -1);
        Checks.readThrows(ReasonsTest::careful, "take bo 0", -1);
        Checks.readThrows(Checks::crowd, "take anna 99", -1);
        Checks.readThrows(ReasonsTest::tenNames, "count k 0", -1);
        Checks.readThrows(ReasonsTest::tenNames, "take k 1", -1);
        Checks.readThrows(ReasonsTest::often, "count a 0", -1);
        Checks.readThrows(Checks::crowd, "salt 2 5", -1);
        Checks.readThrows(Checks::crowd, "salt 9 99", -1);
        // The error of a text comes before all orders, wherever it is.
        Checks.readThrows(Checks::crowd, "cells 3;share 10;cells 100", 25);
        Checks.readThrows(Checks::crowd, "take anna 1;manner plain;", 25);
        Checks.readThrows(ReasonsTest::fourRows, "row 7,row 8", 5);
    }

    private static void firstOrderDecides() {
        Checks.readIsRefused(Checks::crowd, "cells 3;share 10", 3, 3);
        Checks.readIsRefused(Checks::crowd, "share 10;cells 3", 3, 10);
        Checks.readIsRefused(Checks::crowd, "share 10;cells 17", 3, 10);
        Checks.readIsRefused(Checks::crowd, "take ed 9;take anna 1", 5, 4);
        Checks.readThrows(Checks::crowd, "cells 17;share 10", -1);
        Checks.readThrows(Checks::crowd, "take anna 1;take ed 9", -1);
        // What the orders ahead of it did counts.
        Checks.readIsRefused(Checks::crowd, "cells 4;cells 4", 3, 4);
        Checks.readIsRefused(Checks::crowd, "salt 1 6;salt 1 6", 3, 6);
        Checks.readIsRefused(Checks::crowd, "share 11;share 11", 3, 11);
        Checks.readIsRefused(Checks::crowd, "manner careful;manner careful", 3, 1);
        Checks.readIsRefused(Checks::crowd, "manner careful;take bo 99", 4, 1);
        Checks.readIsRefused(Checks::crowd, "count anna 5;take anna 7", 5, 2);
        Checks.readIsRefused(Checks::crowd, "row 6;row 7;row 8", 1, 4);
        Checks.readIsRefused(Checks::crowd, "row 6;salt 2 6", 3, 6);
        Checks.readThrows(Checks::crowd, "row 6;salt 3 6", -1);
        Checks.same("an order on what the one ahead made", Checks.read(Checks.crowd(), "row 6;salt 2 7"), 2);
        Checks.same("a name of the order ahead", Checks.read(Checks.crowd(), "count anna 5;take anna 5"), 2);
    }

    private static void latestRefusal() {
        CrowdSketches x = new CrowdSketches();
        Checks.refuses("no refusal: reason", NONE, () -> x.refusal(false));
        Checks.refuses("no refusal: detail", NONE, () -> x.refusal(true));
        latest(x, 3, 8, () -> x.resize(8));
        latest(x, 2, 1, () -> x.drop(0));
        latest(x, 3, 0, () -> x.salt(0, 0));
        latest(x, 3, 10, () -> Checks.read(x, "share 10"));
        Checks.count(x, "a", 5);
        latest(x, 5, 2, () -> x.take(0, 7));
        x.manner(true);
        latest(x, 4, 1, () -> x.take(0, 7));
        latest(x, 3, 1, () -> x.manner(true));
        Checks.read(x, "row 1;row 2;row 3");
        latest(x, 1, 4, () -> x.row(4));
    }

    private static void latest(CrowdSketches x, int reason, int detail, Checks.Call call) {
        Checks.refuses("reason " + reason + ", detail " + detail, NOT_NOW, call);
        Checks.refusal("the latest", x, reason, detail);
    }

    private static void refusalStays() {
        CrowdSketches x = Checks.crowd();
        Checks.Call[] others = {() -> x.row(100), () -> x.drop(2), () -> x.salt(0, 100), () -> x.count(1),
            () -> x.again(2, 1), x::named, x::restore, () -> x.share(20), x::undo, x::undo, x::save, x::endDay,
            () -> Checks.read(x, "share 30"), () -> Checks.read(x, "share 100"), () -> Checks.read(x, "share 0"),
            () -> Checks.read(x, "take anna 1"), () -> Checks.count(x, "anna", 5), x::isWell};
        for (int i = 0; i < others.length; i++) {
            Checks.answer(others[i]);
            Checks.refusal("the reason stays, call " + i, x, 3, 3);
        }
    }
}
