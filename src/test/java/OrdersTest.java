import java.util.NoSuchElementException;

/** Promises 35 to 38: the input, orders, their errors and reasons. */
public final class OrdersTest {
    private static final Class<IllegalArgumentException> WRONG = IllegalArgumentException.class;
    private static final Class<UnsupportedOperationException> NOT_NOW = UnsupportedOperationException.class;

    public static void main(String[] args) {
        append();
        readOneOrder();
        readSeveral();
        readLikeTheMethods();
        readWhatOrdersThrow();
        readWhatIsRefused();
        readOfTooMuch();
        readAllOrNothing();
        readEmptiesTheInput();
        errorPosition();
        errorPositions();
        refusal();
        Checks.end();
    }

    private static void append() {
        CrowdSketches x = new CrowdSketches();
        Checks.same("promise 35: the first", x.append('a'), 1);
        Checks.same("promise 35: any sign", x.append('\uffff'), 2);
        Checks.same("promise 35: sign 0", x.append('\0'), 3);
        for (int i = 4; i <= 60; i++) {
            Checks.same("promise 35: sign " + i, x.append('b'), i);
        }
        Checks.refusesUnchanged("promise 35: a sixty-first", x, IllegalStateException.class, () -> x.append('c'));
        Checks.refuses("promise 35: read empties", WRONG, x::read);
        Checks.same("promise 35: after it", x.append('c'), 1);
    }

    private static void orders(String what, CrowdSketches x, String text, int due) {
        Checks.same("promise 36: " + what, Checks.read(x, text), due);
        Checks.same("promise 36: the error position, " + what, x.errorPosition(), -1);
        Checks.same("promise 36: the input, " + what, x.account(11), 0);
    }

    private static void readOneOrder() {
        CrowdSketches x = new CrowdSketches();
        orders("count", x, "count bo 12", 1);
        Checks.same("promise 36: counted", x.booked(0), 12);
        orders("count, one digit", x, "count zzzzzz 5", 1);
        Checks.same("promise 36: a second name", x.booked(1), 5);
        orders("count once more", x, "count bo 03", 1);
        Checks.same("promise 36: once more", x.booked(0), 15);
        orders("take", x, "take bo 3", 1);
        Checks.same("promise 36: taken", x.booked(0) + 100 * x.account(10), 312);
        orders("row", x, "row 99", 1);
        Checks.same("promise 36: a row", x.account(0), 2);
        orders("salt", x, "salt 1 07", 1);
        x.rowLine(1);
        Checks.same("promise 36: its salt", Checks.lineText(x).substring(0, 2), "7:");
        orders("cells", x, "cells 16", 1);
        Checks.same("promise 36: the cells", x.account(1), 16);
        orders("share", x, "share 1", 1);
        Checks.same("promise 36: the share", x.account(3), 1);
        orders("manner careful", x, "manner careful", 1);
        Checks.same("promise 36: careful", x.account(2), 1);
        orders("manner plain", x, "manner plain", 1);
        Checks.same("promise 36: plain", x.account(2), 0);
    }

    private static void readSeveral() {
        CrowdSketches x = new CrowdSketches();
        orders("three", x, "count bo 12;take bo 12;count a 1", 3);
        Checks.same("promise 36: names", x.account(4), 2);
        Checks.same("promise 36: one change", x.account(12), 1);
        orders("there and back", x, "cells 4;cells 8;share 9;share 10", 4);
        Checks.same("promise 36: a change without a difference", x.account(12), 2);
        Checks.same("promise 36: undone at once", x.undo() + 10 * x.account(4), 21);
        x.undo();
        Checks.same("promise 36: both names undone", x.account(4), 0);
        orders("sixty signs", x, "row 10;row 20;row 30;cells 2;cells 3;cells 4;cells 5;cells 6", 8);
        Checks.same("promise 36: the last of them", x.account(1), 6);
    }

    private static void readLikeTheMethods() {
        CrowdSketches x = new CrowdSketches();
        Checks.read(x, "count bo 12;count ed 5;cells 2;row 5;manner careful");
        Checks.read(x, "count a 1;salt 1 6;row 5;share 20");
        CrowdSketches y = new CrowdSketches();
        Checks.count(y, "bo", 12);
        Checks.count(y, "ed", 5);
        y.resize(2);
        y.row(5);
        y.manner(true);
        Checks.count(y, "a", 1);
        y.salt(1, 6);
        y.row(5);
        y.share(20);
        Checks.same("promise 36: as by the methods", Checks.changeable(x), Checks.changeable(y));
    }

    /** Read is refused so, and but for the input and its error position nothing is different. */
    private static void readThrows(String text, Class<? extends RuntimeException> due, int position) {
        CrowdSketches x = Checks.pair();
        String before = Checks.changeable(x);
        Checks.type(x, text);
        Checks.refuses("promise 36: '" + text + "'", due, x::read);
        Checks.same("promise 36: after '" + text + "'", Checks.changeable(x), before);
        Checks.same("promise 36: changes after '" + text + "'", x.account(12), 4);
        Checks.same("promise 36: the input after '" + text + "'", x.account(11), 0);
        Checks.same("promise 37: '" + text + "'", x.errorPosition(), position);
        if (due == WRONG) {
            Checks.refuses("promise 38: '" + text + "'", NoSuchElementException.class, () -> x.refusal(false));
        }
    }

    private static void readWhatOrdersThrow() {
        String[] texts = {"count bo 0", "count bo 00", "take bo 0", "take anna 1", "take anna 0", "salt 2 5",
            "salt 9 9", "cells 1", "cells 17", "cells 99", "cells 0", "share 0", "share 00",
            "count anna 1;take ed 3;take otto 1", "cells 1;cells 2", "row 7;salt 3 1"};
        for (String text : texts) {
            readThrows(text, WRONG, -1);
        }
    }

    private static void refused(String text, int reason, int detail) {
        readThrows(text, NOT_NOW, -1);
        CrowdSketches x = Checks.pair();
        Checks.type(x, text);
        Checks.answer(x::read);
        Checks.refusal("promise 36: '" + text + "'", x, reason, detail);
    }

    private static void readWhatIsRefused() {
        refused("row 1;row 2;row 3", 1, 4);
        refused("salt 1 5", 3, 5);
        refused("salt 0 00", 3, 0);
        refused("cells 2", 3, 2);
        refused("cells 3;cells 3", 3, 3);
        refused("share 10", 3, 10);
        refused("manner plain", 3, 0);
        refused("manner careful;manner careful", 3, 1);
        refused("manner careful;take bo 1", 4, 1);
        refused("manner careful;take bo 99", 4, 1);
        refused("take ed 8", 5, 3);
        refused("take bo 12;take bo 1", 5, 1);
        refused("share 10;cells 1", 3, 10);
        refused("cells 2;share 10", 3, 2);
    }

    private static void readOfTooMuch() {
        CrowdSketches x = Checks.pair();
        orders("up to seven names", x, "count a 1;count b 1;count c 1;count d 1;count e 1", 5);
        orders("up to ten names", x, "count f 1;count g 1;count h 1", 3);
        Checks.type(x, "count a 1;count i 1");
        Checks.refuses("promise 36: an eleventh name", NOT_NOW, x::read);
        Checks.refusal("promise 36: an eleventh name", x, 1, 10);
        Checks.same("promise 36: nothing of it", x.booked(2), 1);
        for (int i = 0; i < 101; i++) {
            x.again(2, 98);
        }
        Checks.type(x, "count a 99;count a 50");
        Checks.refuses("promise 36: too often", NOT_NOW, x::read);
        Checks.refusal("promise 36: too often", x, 6, 49);
        Checks.same("promise 36: nothing of it, too", x.booked(2), 9899);
    }

    private static void readAllOrNothing() {
        readThrows("count bo 5;take ed 9", NOT_NOW, -1);
        readThrows("row 9;cells 3;manner careful;share 5;count new 9;cells 1", WRONG, -1);
        readThrows("count bo 5;share 10;cells", WRONG, 25);
        CrowdSketches x = Checks.pair();
        x.drop(1);
        Checks.type(x, "share 10;oops");
        Checks.refuses("promise 36: an error comes first", WRONG, x::read);
        Checks.refuses("promise 38: nothing was refused", NoSuchElementException.class, () -> x.refusal(true));
    }

    private static void readEmptiesTheInput() {
        CrowdSketches x = new CrowdSketches();
        Checks.type(x, "share 5");
        x.read();
        Checks.refuses("promise 36: empty after orders", WRONG, x::read);
        Checks.same("promise 37: empty after orders", x.errorPosition(), 0);
        Checks.type(x, "row 1");
        Checks.same("promise 36: by itself", x.read(), 1);
    }

    private static void errorPosition() {
        CrowdSketches x = new CrowdSketches();
        Checks.same("promise 37: read has not been called", x.errorPosition(), -1);
        Checks.type(x, "row x");
        Checks.refuses("promise 37: count is no read", WRONG, () -> x.count(1));
        Checks.same("promise 37: after count", x.errorPosition(), -1);
        Checks.type(x, "rowing");
        Checks.refuses("promise 37: an error", WRONG, x::read);
        Checks.same("promise 37: it", x.errorPosition(), 3);
        x.save();
        x.share(5);
        x.undo();
        Checks.same("promise 37: is not undone", x.errorPosition(), 3);
        Checks.read(x, "row 1");
        Checks.same("promise 37: the latest", x.errorPosition(), -1);
        x.restore();
        Checks.same("promise 37: is not restored", x.errorPosition(), -1);
    }

    private static void position(String text, int due) {
        CrowdSketches x = new CrowdSketches();
        Checks.type(x, text);
        Checks.refuses("promise 37: '" + text + "'", WRONG, x::read);
        Checks.same("promise 37: '" + text + "'", x.errorPosition(), due);
        Checks.same("promise 37: nothing of '" + text + "'", x.account(12), 0);
    }

    /** Orders of six and seven signs, the semicolon behind each included. */
    private static String orderSigns(int many) {
        int sevens = many % 6;
        return "row 12;".repeat(sevens) + "row 1;".repeat((many - 7 * sevens) / 6);
    }

    private static void errorPositions() {
        String[] tooEarly = {"", "c", "s", "sa", "sh", "cou", "count", "count ", "count bo", "count bo ", "take",
            "take a", "row", "row ", "salt ", "salt 1", "salt 1 ", "cells", "cells ", "share ", "manner", "manner ",
            "manner p", "manner carefu", "row 1;", "row 1;s", "count bo 12;"};
        for (String text : tooEarly) {
            position(text, text.length());
            position(orderSigns(60 - text.length()) + text, 60);
        }
        // The sign "^" stands ahead of what cannot go on.
        String[] marked = {"^x", "^ row 1", "^;", "^Row 1", "^1", "c^x", "c^annot", "s^!", "sha^lt 1 1", "sal^e 1",
            "r^aw 1", "count^s a 1", "count ^1 a", "count ^ a 1", "count ^A 1", "count a^A 1", "count a^;row 1",
            "count abcdef^g 1", "count a ^a", "count a ^ 1", "count a 1^a", "count a 12^3", "count a 1^ ", "count a ^;",
            "take ^; a 1", "take a^1", "row ^-1", "row 10^0", "row 1^ 1", "salt ^a 1", "salt 1^0 1", "salt 1^;",
            "salt 1 10^0", "cells ^a", "cells 1^ ", "cells 12^.", "share 1^%", "share^1", "manner ^x", "manner c^x",
            "manner pl^x", "manner careful^l", "manner plain^ ", "manner plain;^;", "row 1;^;row 2", "row 1;^ row 2",
            "row 1^,row 2", "row 1;r^aw", "row 1;row 23^ ", "count ^\u00e9 1", "count a^\u0161 1", "row ^\u0661",
            "^\uffffow 1", "row 1^\0", "row^\t1"};
        for (String text : marked) {
            position(text.replace("^", ""), text.indexOf('^'));
        }
    }

    private static void refusal() {
        CrowdSketches x = new CrowdSketches();
        Checks.refusesUnchanged("promise 38: nothing", x, NoSuchElementException.class, () -> x.refusal(true));
        Checks.refusesUnchanged("promise 38: nothing yet", x, NoSuchElementException.class, () -> x.refusal(false));
        Checks.refuses("promise 38: no refusal", WRONG, () -> x.row(100));
        Checks.refuses("promise 38: still none", NoSuchElementException.class, () -> x.refusal(false));
        Checks.refuses("promise 38: the first", NOT_NOW, () -> x.share(10));
        Checks.refusal("promise 38: the first", x, 3, 10);
        Checks.refuses("promise 38: another one", NOT_NOW, () -> x.manner(false));
        Checks.refusal("promise 38: a detail of 0", x, 3, 0);
        Checks.refuses("promise 38: a third", NOT_NOW, () -> x.drop(0));
        x.save();
        x.share(12);
        Checks.refuses("promise 38: no refusal again", WRONG, () -> x.share(0));
        Checks.refusal("promise 38: stays", x, 2, 1);
        x.undo();
        x.restore();
        Checks.refusal("promise 38: is neither undone nor restored", x, 2, 1);
    }
}
