/** An object that is as full as it can be: each call still answers, and what goes beyond is refused. */
public final class LimitsTest {
    private static final Class<UnsupportedOperationException> NOT_NOW = UnsupportedOperationException.class;
    private static final String[] NAMES = {"zzzzzz", "zzzzzy", "aaaaaa", "abcdef", "uvwxyz", "ponies", "zebras", "oxen",
        "i", "q"};

    public static void main(String[] args) {
        nothingMore();
        book();
        cells();
        lines();
        changes();
        Checks.end();
    }

    /** Ten names, each counted 99 times, in four rows of sixteen cells. */
    private static CrowdSketches full() {
        CrowdSketches x = new CrowdSketches();
        x.resize(16);
        x.row(99);
        x.row(98);
        x.row(50);
        for (String name : NAMES) {
            Checks.count(x, name, 99);
        }
        return x;
    }

    /** The first three of the names 9999 times: more would not be done in 512 calls. */
    private static CrowdSketches overfull() {
        CrowdSketches x = full();
        for (int name = 0; name < 3; name++) {
            for (int i = 0; i < 100; i++) {
                x.again(name, 99);
            }
        }
        return x;
    }

    private static void nothingMore() {
        CrowdSketches x = overfull();
        Checks.refuses("an eleventh name", NOT_NOW, () -> Checks.count(x, "eleven", 1));
        Checks.refusal("an eleventh name", x, 1, 10);
        Checks.refuses("a fifth row", NOT_NOW, () -> x.row(1));
        Checks.refusal("a fifth row", x, 1, 4);
        Checks.refuses("a ten-thousandth count", NOT_NOW, () -> x.again(2, 1));
        Checks.refusal("a ten-thousandth count", x, 6, 1);
    }

    private static void book() {
        CrowdSketches x = overfull();
        int sum = 3 * 9999 + 7 * 99;
        Checks.same("the book", x.account(5), sum);
        Checks.same("the cells", x.account(6), 4 * sum);
        Checks.same("the bound", x.bound(), sum / 16);
        Checks.same("heavy names", x.heavy(true), 7);
        x.share(32);
        Checks.same("heavy by 32 percent", x.heavy(true), 7);
        x.share(33);
        Checks.same("none is 33 percent", x.heavy(true), 0);
        Checks.same("a day", x.endDay(), sum);
        Checks.same("what it was for one", x.gained(2, 0), 9999);
        x.manner(true);
        Checks.same("well, carefully", x.isWell(), true);
        x.manner(false);
        Checks.same("the cells again", x.account(6), 4 * sum);
        Checks.same("well", x.isWell(), true);
    }

    private static void cells() {
        CrowdSketches x = full();
        Checks.same("the book", x.account(5), 990);
        Checks.same("the worst", x.error(x.worst()) >= x.meanError(), true);
        for (int row = 0; row < 4; row++) {
            for (int name = 0; name < NAMES.length; name++) {
                Checks.same("cell of " + name + " in " + row, x.cell(row, x.cellOf(row, name)) >= 99, true);
            }
        }
    }

    private static void lines() {
        CrowdSketches x = overfull();
        String due = "50:";
        for (int cell = 0; cell < 16; cell++) {
            due += " " + x.cell(3, cell);
        }
        Checks.same("the longest line of a row", x.rowLine(3), due.length());
        Checks.same("it", Checks.lineText(x), due);
        x.line(0);
        Checks.same("the longest name", Checks.lineText(x), "zzzzzz " + x.guess(0) + "/9999 H");
        String names = "";
        for (int place = 0; place < NAMES.length; place++) {
            names += x.ranked(place);
        }
        Checks.same("each name has a place", names.chars().distinct().count(), 10L);
    }

    /** All lines of rows, and the book. */
    private static String shortly(CrowdSketches x) {
        StringBuilder text = new StringBuilder();
        for (int row = 0; row < x.account(0); row++) {
            text.append(x.rowLine(row)).append(' ').append(x.cell(row, 0)).append(' ');
            text.append(x.shared(row)).append(' ');
        }
        return text.append(x.account(5)).append(' ').append(x.account(6)).append(x.account(7)).toString();
    }

    private static void changes() {
        CrowdSketches x = full();
        String plain = shortly(x);
        x.manner(true);
        x.salt(3, 51);
        x.drop(3);
        x.drop(0);
        x.row(99);
        x.resize(15);
        Checks.same("the names", x.account(4), 10);
        Checks.same("a day", x.endDay(), 990);
        x.manner(false);
        Checks.same("the cells of three rows", x.account(6), 3 * 990);
        for (int left = 7; left >= 0; left--) {
            Checks.same("undone", x.undo(), left);
        }
        Checks.same("all is as it was", shortly(x), plain);
        Checks.refuses("no more", IllegalStateException.class, x::undo);
    }
}
