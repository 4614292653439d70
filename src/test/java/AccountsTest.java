/** Promises 39 to 42: accounts, whether all is well, and means. */
public final class AccountsTest {
    private static final Class<IllegalArgumentException> WRONG = IllegalArgumentException.class;

    public static void main(String[] args) {
        accountsOfAll();
        accountsOfErrors();
        accountsOfChanges();
        noAccounts();
        isWell();
        meanError();
        fullShare();
        Checks.end();
    }

    private static void account(CrowdSketches x, int what, int due) {
        Checks.same("promise 39: account " + what, x.account(what), due);
    }

    private static void accountsOfAll() {
        CrowdSketches x = Checks.pair();
        x.share(25);
        int[] due = {2, 2, 0, 25, 2, 17, 34, 1};
        for (int what = 0; what < due.length; what++) {
            account(x, what, due[what]);
        }
        x.manner(true);
        account(x, 2, 1);
        account(x, 5, 17);
        account(x, 6, 29);
        x.resize(16);
        account(x, 1, 16);
        account(x, 7, 28);
    }

    /** "a" and "i" share a cell, "b" is alone; 6 of 60 are heavy at first, and then 1 of 10. */
    private static void accountsOfErrors() {
        CrowdSketches x = new CrowdSketches();
        account(x, 8, 0);
        account(x, 9, 0);
        Checks.count(x, "a", 1);
        Checks.count(x, "b", 9);
        account(x, 8, 2);
        account(x, 9, 0);
        Checks.count(x, "i", 50);
        account(x, 8, 1);
        account(x, 9, 1);
        x.take(2, 50);
        account(x, 8, 2);
        account(x, 9, 1);
        x.share(11);
        account(x, 9, 0);
    }

    private static void accountsOfChanges() {
        CrowdSketches x = new CrowdSketches();
        Checks.count(x, "a", 20);
        x.take(0, 3);
        x.take(0, 4);
        account(x, 10, 7);
        Checks.type(x, "input");
        account(x, 11, 5);
        account(x, 12, 3);
        x.endDay();
        x.endDay();
        account(x, 13, 2);
        account(x, 12, 5);
        x.undo();
        x.undo();
        x.undo();
        account(x, 13, 0);
        account(x, 10, 3);
        account(x, 12, 2);
        for (int i = 0; i < 9; i++) {
            x.endDay();
        }
        account(x, 13, 9);
        account(x, 12, 8);
        account(x, 11, 5);
    }

    private static void noAccounts() {
        CrowdSketches x = Checks.pair();
        int[] none = {-1, 14, 15, Integer.MAX_VALUE, Integer.MIN_VALUE};
        for (int what : none) {
            Checks.refusesUnchanged("promise 39: account " + what, x, WRONG, () -> x.account(what));
        }
    }

    private static void isWell() {
        CrowdSketches x = Checks.pair();
        Checks.same("promise 40: plain", x.isWell(), true);
        x.take(0, 12);
        Checks.same("promise 40: taken back", x.isWell(), true);
        x.manner(true);
        Checks.same("promise 40: careful", x.isWell(), true);
        Checks.count(x, "d", 9);
        x.row(1);
        x.drop(0);
        x.salt(0, 17);
        Checks.same("promise 40: careful, with a row anew", x.isWell(), true);
        x.undo();
        Checks.same("promise 40: undone", x.isWell(), true);
        x.manner(false);
        Checks.same("promise 40: plain again", x.isWell(), true);
    }

    private static void meanError() {
        CrowdSketches none = new CrowdSketches();
        Checks.refusesUnchanged("promise 41: no names", none, ArithmeticException.class, none::meanError);
        CrowdSketches x = new CrowdSketches();
        Checks.count(x, "a", 9);
        Checks.same("promise 41: no error", x.meanError(), 0.0);
        Checks.count(x, "i", 4);
        Checks.same("promise 41: a half", x.meanError(), 6.5);
        Checks.count(x, "b", 4);
        Checks.same("promise 41: a third", x.meanError(), 13.0 / 3.0);
    }

    private static void fullShare() {
        CrowdSketches x = new CrowdSketches();
        Checks.same("promise 42: no names", x.fullShare(), 0.0f);
        Checks.count(x, "a", 9);
        x.resize(3);
        Checks.same("promise 42: a third", x.fullShare(), 1.0f / 3.0f);
        x.row(1);
        Checks.count(x, "b", 1);
        Checks.same("promise 42: of all rows", x.fullShare(), 4.0f / 6.0f);
        x.take(1, 1);
        x.take(0, 9);
        Checks.same("promise 42: all taken back", x.fullShare(), 0.0f);
        emptyAndFull();
    }

    private static void emptyAndFull() {
        CrowdSketches x = new CrowdSketches();
        Checks.read(x, "row 1;row 2;row 3;cells 16");
        Checks.same("promise 42: none of the most cells", x.fullShare(), 0.0f);
        account(x, 7, 64);
        Checks.count(x, "a", 1);
        Checks.same("promise 42: one in each row of the most cells", x.fullShare(), 0.0625f);
        account(x, 7, 60);
        x.resize(2);
        Checks.count(x, "b", 1);
        Checks.same("promise 42: all cells", x.fullShare(), 1.0f);
        account(x, 7, 0);
        account(x, 6, 8);
    }
}
