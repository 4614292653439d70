/** Promises 43 to 45: undo and the snapshot. */
public final class UndoTest {
    private static final Class<IllegalStateException> NOT_SO = IllegalStateException.class;

    public static void main(String[] args) {
        undoOfEach();
        undoOfEight();
        undoOfWhatIsNoChange();
        undoLeavesTheRest();
        undoGoesOn();
        save();
        restore();
        restoreForgets();
        restoreLeavesTheRest();
        Checks.end();
    }

    private static void undone(String what, Checks.Maker maker, Checks.Use change) {
        CrowdSketches x = maker.make();
        String before = Checks.changeable(x);
        int changes = x.account(12);
        change.of(x);
        Checks.same("promise 43: " + what + " is a change", x.account(12), changes + 1);
        Checks.same("promise 43: undo of " + what, x.undo(), changes);
        Checks.same("promise 43: after undo of " + what, Checks.changeable(x), before);
        CrowdSketches twin = maker.make();
        Checks.same("promise 43: salts after undo of " + what, Checks.salts(x), Checks.salts(twin));
    }

    private static void undoOfEach() {
        undone("row", Checks::crowd, x -> x.row(9));
        undone("drop", Checks::crowd, x -> x.drop(0));
        undone("salt", Checks::crowd, x -> x.salt(1, 3));
        undone("resize", Checks::crowd, x -> x.resize(7));
        undone("manner", Checks::crowd, x -> x.manner(true));
        undone("share", Checks::crowd, x -> x.share(50));
        undone("count", Checks::crowd, x -> Checks.count(x, "bo", 9));
        undone("count of a new name", Checks::crowd, x -> Checks.count(x, "new", 9));
        undone("again", Checks::crowd, x -> x.again(1, 2));
        undone("take", Checks::crowd, x -> x.take(1, 2));
        undone("endDay", Checks::crowd, CrowdSketches::endDay);
        undone("read", Checks::crowd, x -> Checks.read(x, "row 1;share 3;count new 5;cells 4;manner careful"));
        undone("count, careful", UndoTest::careful, x -> Checks.count(x, "ed", 9));
        undone("manner, careful", UndoTest::careful, x -> x.manner(false));
        undone("drop, careful", UndoTest::careful, x -> x.drop(1));
        undone("salt, careful", UndoTest::careful, x -> x.salt(1, 0));
        undone("row, careful", UndoTest::careful, x -> x.row(1));
        undone("the first of all", CrowdSketches::new, x -> Checks.count(x, "a", 1));
    }

    /** "ed" shares its cell with "bo" in one row and with "d" in the other, and was counted in parts. */
    private static CrowdSketches careful() {
        CrowdSketches x = Checks.pair();
        x.manner(true);
        Checks.read(x, "count d 9;count ed 3");
        return x;
    }

    private static void undoOfEight() {
        CrowdSketches x = new CrowdSketches();
        Checks.refusesUnchanged("promise 43: a new object", x, NOT_SO, x::undo);
        String[] before = new String[12];
        for (int i = 0; i < before.length; i++) {
            before[i] = shortly(x);
            Checks.count(x, "abcd".substring(i / 3, i / 3 + 1), i + 1);
        }
        for (int left = 7; left >= 0; left--) {
            Checks.same("promise 43: left", x.undo(), left);
            Checks.same("promise 43: with " + left + " left", shortly(x), before[4 + left]);
        }
        Checks.refusesUnchanged("promise 43: a ninth", x, NOT_SO, x::undo);
    }

    private static String shortly(CrowdSketches x) {
        StringBuilder view = new StringBuilder();
        int names = x.account(4);
        for (int name = 0; name < names; name++) {
            view.append(x.letter(name, 0)).append(x.guess(name)).append('/').append(x.booked(name)).append(' ');
        }
        return view.append(x.account(6)).toString();
    }

    private static void undoOfWhatIsNoChange() {
        CrowdSketches x = new CrowdSketches();
        Checks.answer(() -> x.share(10));
        Checks.answer(() -> x.row(100));
        Checks.answer(() -> Checks.count(x, "A", 5));
        Checks.answer(() -> Checks.read(x, "row 1;cells 8"));
        x.append('a');
        x.rowLine(0);
        x.save();
        Checks.refusesUnchanged("promise 43: none was a change", x, NOT_SO, x::undo);
        x.endDay();
        Checks.same("promise 43: a day without names is one", x.undo(), 0);
    }

    private static void undoLeavesTheRest() {
        CrowdSketches x = new CrowdSketches();
        Checks.count(x, "anna", 5);
        x.line(0);
        Checks.type(x, "anna");
        Checks.answer(() -> x.share(10));
        String line = Checks.lineText(x);
        x.undo();
        Checks.same("promise 43: the line stays", Checks.lineText(x), line);
        Checks.same("promise 43: the input stays", x.account(11), 4);
        Checks.refusal("promise 43: the reason stays", x, 3, 10);
        Checks.same("promise 43: the input can be counted", x.count(7), 7);
    }

    private static void undoGoesOn() {
        CrowdSketches x = new CrowdSketches();
        for (int i = 1; i <= 9; i++) {
            x.share(i);
        }
        x.undo();
        x.undo();
        Checks.same("promise 43: two undone", x.account(3), 7);
        x.share(20);
        Checks.same("promise 43: and one more change", x.account(12), 7);
        x.undo();
        Checks.same("promise 43: undone again", x.account(3), 7);
        for (int due = 6; due >= 1; due--) {
            x.undo();
            Checks.same("promise 43: on and on", x.account(3), due);
        }
        Checks.refusesUnchanged("promise 43: the first was one too many", x, NOT_SO, x::undo);
    }

    private static void save() {
        CrowdSketches x = new CrowdSketches();
        Checks.same("promise 44: no names", x.save(), 0);
        Checks.count(x, "a", 5);
        Checks.count(x, "b", 5);
        String before = Checks.view(x);
        Checks.same("promise 44: two names", x.save(), 2);
        Checks.same("promise 44: nothing is different", Checks.view(x), before);
        x.undo();
        Checks.same("promise 44: the latest snapshot stands", x.restore(), 2);
        Checks.same("promise 44: undo does not undo it", x.booked(1), 5);
    }

    private static void restore() {
        Checks.throwsAlone("promise 45: no snapshot", Checks::pair, NOT_SO, CrowdSketches::restore);
        CrowdSketches x = Checks.pair();
        x.endDay();
        x.take(0, 2);
        x.endDay();
        x.manner(true);
        x.share(33);
        x.save();
        String saved = Checks.changeable(x);
        for (int i = 0; i < 2; i++) {
            Checks.read(x, "count new 9;row 4;cells 5;salt 0 77;share 3");
            x.endDay();
            x.manner(false);
            x.take(0, 1);
            x.drop(1);
            Checks.same("promise 45: two names", x.restore(), 2);
            Checks.same("promise 45: all is as it was, time " + i, Checks.changeable(x), saved);
        }
        Checks.same("promise 45: also if nothing is different", x.restore(), 2);
        Checks.same("promise 45: and goes on from there", x.again(1, 1), x.guess(1));
        Checks.same("promise 45: with the book", x.booked(1), 6);
    }

    private static void restoreForgets() {
        CrowdSketches x = new CrowdSketches();
        x.share(5);
        x.save();
        x.share(6);
        Checks.same("promise 45: no names", x.restore(), 0);
        Checks.same("promise 45: no changes", x.account(12), 0);
        Checks.refusesUnchanged("promise 45: nothing can be undone", x, NOT_SO, x::undo);
        x.share(7);
        Checks.same("promise 45: but what is changed then", x.undo(), 0);
        Checks.same("promise 45: to the snapshot", x.account(3), 5);
    }

    private static void restoreLeavesTheRest() {
        CrowdSketches x = new CrowdSketches();
        x.save();
        Checks.count(x, "anna", 5);
        Checks.answer(() -> Checks.read(x, "row x"));
        Checks.answer(() -> x.drop(0));
        x.line(0);
        Checks.type(x, "bo");
        Checks.same("promise 45: a name less", x.restore(), 0);
        Checks.same("promise 45: the line stays", Checks.lineText(x), "anna 5/5 H");
        Checks.same("promise 45: the input stays", x.account(11), 2);
        Checks.same("promise 45: the error position stays", x.errorPosition(), 4);
        Checks.refusal("promise 45: the reason stays", x, 2, 1);
    }
}
