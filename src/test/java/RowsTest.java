/** Promises 1 to 10: a new object, rows and manners. */
public final class RowsTest {
    private static final Class<IllegalArgumentException> WRONG = IllegalArgumentException.class;
    private static final Class<IndexOutOfBoundsException> OUT = IndexOutOfBoundsException.class;
    private static final Class<UnsupportedOperationException> NOT_NOW = UnsupportedOperationException.class;

    public static void main(String[] args) {
        newObject();
        row();
        rowIsMadeAnewPlainly();
        drop();
        salt();
        resize();
        manner();
        share();
        cell();
        cellOf();
        shared();
        Checks.end();
    }

    private static void rows(String what, CrowdSketches x, String... due) {
        Checks.same(what + ": rows", x.account(0), due.length);
        for (int row = 0; row < due.length; row++) {
            Checks.same(what + ": row " + row, Checks.cells(x, row), due[row]);
        }
    }

    private static void newObject() {
        CrowdSketches x = new CrowdSketches();
        int[] accounts = {1, 8, 0, 10, 0, 0, 0, 8, 0, 0, 0, 0, 0, 0};
        for (int what = 0; what < accounts.length; what++) {
            Checks.same("promise 1: account " + what, x.account(what), accounts[what]);
        }
        rows("promise 1", x, "[0, 0, 0, 0, 0, 0, 0, 0]");
        x.rowLine(0);
        Checks.same("promise 1: row line", Checks.lineText(x), "0: 0 0 0 0 0 0 0 0");
        Checks.same("promise 1: heavy", x.heavy(true) + x.heavy(false), 0);
        Checks.same("promise 1: bound", x.bound(), 0);
        Checks.same("promise 1: well", x.isWell(), true);
        Checks.same("promise 1: another one is apart", new CrowdSketches().account(4), 0);
    }

    private static void row() {
        CrowdSketches x = new CrowdSketches();
        Checks.refusesUnchanged("promise 2: salt -1", x, WRONG, () -> x.row(-1));
        Checks.refusesUnchanged("promise 2: salt 100", x, WRONG, () -> x.row(100));
        Checks.refusesUnchanged("promise 2: least int", x, WRONG, () -> x.row(Integer.MIN_VALUE));
        Checks.same("promise 2: salt 0", x.row(0), 1);
        Checks.same("promise 2: salt 99", x.row(99), 2);
        Checks.same("promise 2: salt 99 again", x.row(99), 3);
        Checks.refuses("promise 2: a fifth row", NOT_NOW, () -> x.row(7));
        Checks.refusal("promise 2: a fifth row", x, 1, 4);
        Checks.refusesUnchanged("promise 2: the salt comes first", x, WRONG, () -> x.row(100));
        Checks.same("promise 2: still four", x.account(0), 4);
        Checks.same("promise 2: changes", x.account(12), 3);
        x.rowLine(3);
        Checks.same("promise 2: the salt", Checks.lineText(x), "99: 0 0 0 0 0 0 0 0");
    }

    private static void rowIsMadeAnewPlainly() {
        CrowdSketches x = Checks.pair();
        rows("promise 2: plain", x, "[0, 17]", "[5, 12]");
        x.manner(true);
        Checks.same("promise 2: careful", x.row(0), 2);
        rows("promise 2: careful", x, "[0, 12]", "[5, 12]", "[0, 17]");
        Checks.same("promise 2: stays careful", x.account(2), 1);
        x.drop(0);
        x.drop(1);
        Checks.same("promise 2: a row that was dropped before leaves nothing", x.row(0), 1);
        rows("promise 2: anew", x, "[5, 12]", "[0, 17]");
    }

    private static void drop() {
        CrowdSketches x = Checks.pair();
        x.row(7);
        Checks.refusesUnchanged("promise 3: row -1", x, OUT, () -> x.drop(-1));
        Checks.refusesUnchanged("promise 3: row 3", x, OUT, () -> x.drop(3));
        Checks.same("promise 3: the first", x.drop(0), 2);
        rows("promise 3: the first", x, "[5, 12]", Checks.cells(x, 1));
        x.rowLine(1);
        Checks.same("promise 3: a later one's salt", Checks.lineText(x).substring(0, 2), "7:");
        Checks.same("promise 3: the last", x.drop(1), 1);
        rows("promise 3: the last", x, "[5, 12]");
        Checks.refuses("promise 3: the one alone", NOT_NOW, () -> x.drop(0));
        Checks.refusal("promise 3: the one alone", x, 2, 1);
        Checks.refusesUnchanged("promise 3: the row comes first", x, OUT, () -> x.drop(1));
        rows("promise 3: still there", x, "[5, 12]");
        dropMakesNoOtherAnew();
    }

    private static void dropMakesNoOtherAnew() {
        CrowdSketches x = Checks.pair();
        x.manner(true);
        x.drop(1);
        rows("promise 3: no other is anew", x, "[0, 12]");
    }

    private static void salt() {
        CrowdSketches x = Checks.pair();
        Checks.refusesUnchanged("promise 4: row 2", x, OUT, () -> x.salt(2, 5));
        Checks.refusesUnchanged("promise 4: row -1, salt 100", x, OUT, () -> x.salt(-1, 100));
        Checks.refusesUnchanged("promise 4: salt 100", x, WRONG, () -> x.salt(1, 100));
        Checks.refusesUnchanged("promise 4: salt -1", x, WRONG, () -> x.salt(0, -1));
        Checks.refuses("promise 4: the same", NOT_NOW, () -> x.salt(1, 5));
        Checks.refusal("promise 4: the same", x, 3, 5);
        Checks.same("promise 4: row 0", x.salt(0, 99), 0);
        Checks.same("promise 4: row 0 again", x.salt(0, 5), 99);
        rows("promise 4: anew", x, "[5, 12]", "[5, 12]");
        Checks.same("promise 4: row 1", x.salt(1, 0), 5);
        rows("promise 4: anew", x, "[5, 12]", "[0, 17]");
        saltIsPlain();
    }

    private static void saltIsPlain() {
        CrowdSketches x = Checks.pair();
        x.row(1);
        x.manner(true);
        Checks.same("promise 4: careful", x.salt(2, 0), 1);
        rows("promise 4: careful", x, "[0, 12]", "[5, 12]", "[0, 17]");
        Checks.same("promise 4: stays careful", x.account(2), 1);
    }

    private static void resize() {
        CrowdSketches x = new CrowdSketches();
        Checks.refusesUnchanged("promise 5: 1", x, WRONG, () -> x.resize(1));
        Checks.refusesUnchanged("promise 5: 17", x, WRONG, () -> x.resize(17));
        Checks.refusesUnchanged("promise 5: -8", x, WRONG, () -> x.resize(-8));
        Checks.refuses("promise 5: 8", NOT_NOW, () -> x.resize(8));
        Checks.refusal("promise 5: 8", x, 3, 8);
        Checks.same("promise 5: 16", x.resize(16), 8);
        Checks.same("promise 5: 2", x.resize(2), 16);
        Checks.same("promise 5: cells", x.account(1), 2);
        CrowdSketches y = Checks.pair();
        Checks.same("promise 5: with names", y.resize(4), 2);
        rows("promise 5: plain", y, "[0, 12, 0, 5]", "[5, 0, 0, 12]");
        y.manner(true);
        y.again(0, 1);
        y.again(1, 4);
        Checks.same("promise 5: careful", y.resize(2), 4);
        rows("promise 5: careful", y, "[0, 13]", "[9, 13]");
    }

    private static void manner() {
        CrowdSketches x = Checks.pair();
        Checks.refuses("promise 6: plain", NOT_NOW, () -> x.manner(false));
        Checks.refusal("promise 6: plain", x, 3, 0);
        Checks.same("promise 6: to careful", x.manner(true), 29);
        rows("promise 6: careful", x, "[0, 12]", "[5, 12]");
        Checks.refuses("promise 6: careful", NOT_NOW, () -> x.manner(true));
        Checks.refusal("promise 6: careful", x, 3, 1);
        Checks.same("promise 6: to plain", x.manner(false), 34);
        rows("promise 6: plain", x, "[0, 17]", "[5, 12]");
        Checks.same("promise 6: without names", new CrowdSketches().manner(true), 0);
    }

    private static void share() {
        CrowdSketches x = new CrowdSketches();
        Checks.refusesUnchanged("promise 7: 0", x, WRONG, () -> x.share(0));
        Checks.refusesUnchanged("promise 7: 100", x, WRONG, () -> x.share(100));
        Checks.refuses("promise 7: 10", NOT_NOW, () -> x.share(10));
        Checks.refusal("promise 7: 10", x, 3, 10);
        Checks.same("promise 7: 1", x.share(1), 10);
        Checks.same("promise 7: 99", x.share(99), 1);
        Checks.same("promise 7: the share", x.account(3), 99);
    }

    private static void cell() {
        CrowdSketches x = Checks.pair();
        Checks.same("promise 8: row 0", x.cell(0, 1), 17);
        Checks.same("promise 8: row 1", x.cell(1, 0), 5);
        Checks.refusesUnchanged("promise 8: cell 2", x, OUT, () -> x.cell(0, 2));
        Checks.refuses("promise 8: cell -1", OUT, () -> x.cell(0, -1));
        Checks.refuses("promise 8: row 2", OUT, () -> x.cell(2, 0));
        Checks.refuses("promise 8: row -1", OUT, () -> x.cell(-1, 0));
        x.resize(16);
        Checks.same("promise 8: the last of 16", x.cell(0, 15), 0);
        Checks.same("promise 8: 29 of 16", x.cell(0, 13), 12);
        Checks.refuses("promise 8: cell 16", OUT, () -> x.cell(0, 16));
    }

    private static void cellOf() {
        CrowdSketches x = Checks.pair();
        Checks.same("promise 9: bo, salt 0", x.cellOf(0, 0), 1);
        Checks.same("promise 9: ed, salt 5", x.cellOf(1, 1), 0);
        Checks.count(x, "zzzzzz", 1);
        x.resize(16);
        // By hand: 26, 208, 1482, 427 of 10400, 3015 and then 1185 of 21131.
        Checks.same("promise 9: six letters, salt 0", x.cellOf(0, 2), 1185 % 16);
        Checks.same("promise 9: six letters, salt 5", x.cellOf(1, 2), hash("zzzzzz", 12) % 16);
        Checks.refuses("promise 9: row 2", OUT, () -> x.cellOf(2, 0));
        Checks.refuses("promise 9: row -1", OUT, () -> x.cellOf(-1, 0));
        Checks.refuses("promise 9: name 3", OUT, () -> x.cellOf(0, 3));
        Checks.refusesUnchanged("promise 9: name -1", x, OUT, () -> x.cellOf(0, -1));
    }

    private static int hash(String name, int factor) {
        int rest = 0;
        for (char c : name.toCharArray()) {
            rest = (rest * factor + c - 96) % 9973;
        }
        return rest;
    }

    private static void shared() {
        CrowdSketches x = Checks.pair();
        Checks.same("promise 10: one pair", x.shared(0), 1);
        Checks.same("promise 10: no pair", x.shared(1), 0);
        Checks.refusesUnchanged("promise 10: row 2", x, OUT, () -> x.shared(2));
        Checks.refusesUnchanged("promise 10: row -1", x, OUT, () -> x.shared(-1));
        Checks.count(x, "a", 1);
        Checks.same("promise 10: three names in a cell", x.shared(0), 3);
        x.take(2, 1);
        Checks.same("promise 10: also if the book tells 0", x.shared(0), 3);
        Checks.same("promise 10: without names", new CrowdSketches().shared(0), 0);
    }
}
