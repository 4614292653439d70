/** An object that is as full as it can be: each call still answers, and what goes beyond is refused. */
public final class LimitsTest {
    private static final String[] NAMES = {"zzzzzz", "zzzzzy", "aaaaaa", "abcdef", "uvwxyz", "ponies", "zebras", "oxen",
        "i", "q"};

    public static void main(String[] args) {
        CrowdSketches x = full();
        book(x);
        Checks.refuses("an eleventh name", UnsupportedOperationException.class, () -> Checks.count(x, "eleven", 1));
        Checks.refuses("a fifth row", UnsupportedOperationException.class, () -> x.row(1));
        Checks.refuses("a ten-thousandth count", UnsupportedOperationException.class, () -> x.again(0, 1));
        lines(x);
        changes(x);
        Checks.end();
    }

    /** Ten names, each counted 9999 times, in four rows of sixteen cells, with six days behind. */
    private static CrowdSketches full() {
        CrowdSketches x = new CrowdSketches();
        x.resize(16);
        x.row(99);
        x.row(98);
        x.row(50);
        for (String name : NAMES) {
            Checks.count(x, name, 99);
        }
        for (int name = 0; name < NAMES.length; name++) {
            for (int i = 0; i < 100; i++) {
                x.again(name, 99);
            }
        }
        for (int i = 0; i < 6; i++) {
            x.endDay();
        }
        return x;
    }

    private static void book(CrowdSketches x) {
        Checks.same("the book", x.account(5), 99990);
        Checks.same("the cells", x.account(6), 4 * 99990);
        Checks.same("the bound", x.bound(), 6249);
        Checks.same("heavy names", x.heavy(true), 1023);
        Checks.same("heavy by guess", x.heavy(false), 1023);
        x.share(99);
        Checks.same("none is 99 percent", x.heavy(true), 0);
        Checks.same("well", x.isWell(), true);
        Checks.same("the worst", x.error(x.worst()) >= x.meanError(), true);
        Checks.same("the mean error", x.meanError() * x.account(4) % 9999, 0.0);
        Checks.same("the busiest day", x.busiest(), 0);
        for (int row = 0; row < 4; row++) {
            for (int name = 0; name < NAMES.length; name++) {
                Checks.same("cell of " + name + " in " + row, x.cell(row, x.cellOf(row, name)) >= 9999, true);
            }
        }
    }

    private static void lines(CrowdSketches x) {
        String due = "50:";
        for (int cell = 0; cell < 16; cell++) {
            due += " " + x.cell(3, cell);
        }
        Checks.same("the longest line of a row", x.rowLine(3), due.length());
        Checks.same("it", Checks.lineText(x), due);
        x.line(0);
        Checks.same("the longest name", Checks.lineText(x), "zzzzzz " + x.guess(0) + "/9999");
        x.daysLine(9);
        Checks.same("the days", Checks.lineText(x), "0 0 0 0 0");
        String names = "";
        for (int place = 0; place < NAMES.length; place++) {
            names += x.ranked(place);
        }
        Checks.same("each name has a place", names.chars().distinct().count(), 10L);
    }

    private static void changes(CrowdSketches x) {
        String plain = Checks.changeable(x);
        x.manner(true);
        Checks.same("well, carefully", x.isWell(), true);
        x.salt(3, 51);
        x.drop(3);
        x.drop(0);
        x.row(99);
        x.resize(15);
        Checks.same("the names", x.account(4), 10);
        Checks.same("a day", x.endDay(), 0);
        x.manner(false);
        Checks.same("the cells of three rows", x.account(6), 3 * 99990);
        for (int left = 7; left >= 0; left--) {
            Checks.same("undone", x.undo(), left);
        }
        Checks.same("all is as it was", Checks.changeable(x), plain);
        Checks.refuses("no more", IllegalStateException.class, x::undo);
    }
}
