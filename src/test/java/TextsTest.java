/** The text of orders, sign by sign: what can continue it, where its error is, and what its orders do. */
public final class TextsTest {
    private static final String[] ORDERS = {"count a 1", "count abcdef 12", "take bo 3", "take zzzzzz 99", "row 0",
        "row 98", "salt 0 7", "salt 9 42", "cells 5", "cells 16", "share 1", "share 50", "manner plain",
        "manner careful"};

    public static void main(String[] args) {
        positionsByHand();
        eachSignAfterEachStart();
        eachSignInEachPlace();
        eachStartTooEarly();
        semicolons();
        lettersOfWords();
        numbersOfOrders();
        Checks.end();
    }

    /** Read of the text, on a new object, and the error position due by a second way. */
    private static void text(String text) {
        CrowdSketches x = new CrowdSketches();
        Checks.type(x, text);
        Object answer = Checks.answer(x::read);
        int due = Checks.errorOf(text);
        Checks.same("the error position of '" + text + "'", x.errorPosition(), due);
        if (due >= 0) {
            Checks.same("read of '" + text + "'", answer, "IllegalArgumentException");
            Checks.same("changes by '" + text + "'", x.account(12), 0);
        } else {
            boolean isDone = answer instanceof Integer;
            Checks.same("changes by '" + text + "'", x.account(12), isDone ? 1 : 0);
        }
        Checks.same("the input after '" + text + "'", x.account(11), 0);
    }

    /** The second way, too, is looked at. */
    private static void positionsByHand() {
        String[] marked = {"^", "^a", "c^", "c^c", "count^", "count ^1", "count a^", "count abcdef^g 1", "count a 1;^",
            "row 1;^;", "salt 1^1 1", "salt 1 11^1", "manner^x", "manner p^a", "row 1^\n"};
        for (String text : marked) {
            Checks.same("by the second way: " + text, Checks.errorOf(text.replace("^", "")), text.indexOf('^'));
        }
        for (String order : ORDERS) {
            Checks.same("by the second way: " + order, Checks.errorOf(order), -1);
        }
    }

    private static void eachSignAfterEachStart() {
        String[] ahead = {"", "share 9;", "manner careful;row 1;"};
        for (String order : ORDERS) {
            for (int length = 0; length <= order.length(); length++) {
                for (char sign = 0; sign < 256; sign++) {
                    text(ahead[sign % 3] + order.substring(0, length) + sign);
                }
                text(order.substring(0, length) + (char) ('a' + 256));
                text(order.substring(0, length) + '\uffff');
            }
        }
    }

    private static void eachSignInEachPlace() {
        String signs = "\0 ;,:-+0159amnopqrstuz`{/AZ\u00e9\u0131\u0660";
        for (String order : ORDERS) {
            String text = order + ";" + order;
            for (int place = 0; place < text.length(); place++) {
                for (int i = 0; i < signs.length(); i++) {
                    text(text.substring(0, place) + signs.charAt(i) + text.substring(place + 1));
                }
                text(text.substring(0, place) + text.substring(place + 1));
            }
        }
    }

    private static void eachStartTooEarly() {
        for (String order : ORDERS) {
            for (int length = 0; length <= order.length(); length++) {
                text(order.substring(0, length));
                text("row 1;" + order.substring(0, length));
                text("x" + order.substring(0, length));
            }
        }
    }

    private static void semicolons() {
        Checks.readThrows(Checks::crowd, ";", 0);
        Checks.readThrows(Checks::crowd, ";row 1", 0);
        Checks.readThrows(Checks::crowd, "row 1;", 6);
        Checks.readThrows(Checks::crowd, "row 1;;row 2", 6);
        Checks.readThrows(Checks::crowd, "row 1; row 2", 6);
        Checks.readThrows(Checks::crowd, "row 1 ;row 2", 5);
        Checks.readThrows(Checks::crowd, "row 1 row 2", 5);
        Checks.readThrows(Checks::crowd, "manner plainrow 2", 12);
        Checks.readThrows(Checks::crowd, " row 1", 0);
        Checks.same("two orders", Checks.read(Checks.crowd(), "row 1;row 2"), 2);
    }

    private static void lettersOfWords() {
        Checks.readThrows(Checks::crowd, "cown a 1", 2);
        Checks.readThrows(Checks::crowd, "cealls 1", 2);
        Checks.readThrows(Checks::crowd, "salts 1", 4);
        Checks.readThrows(Checks::crowd, "shalt 1 1", 3);
        Checks.readThrows(Checks::crowd, "COUNT a 1", 0);
        Checks.readThrows(Checks::crowd, "tale a 1", 2);
        Checks.readThrows(Checks::crowd, "manner carefull", 14);
        Checks.readThrows(Checks::crowd, "manner careplain", 11);
        Checks.readThrows(Checks::crowd, "drop 1", 0);
        Checks.readThrows(Checks::crowd, "cell 1", 4);
        Checks.readThrows(Checks::crowd, "count bo", 8);
        Checks.readThrows(Checks::crowd, "count 12", 6);
    }

    /** One digit and two mean the same number. */
    private static void numbersOfOrders() {
        for (int number = 0; number <= 99; number++) {
            int due = number;
            counts("count a " + number, due);
            if (number < 10) {
                counts("count a 0" + number, due);
            }
        }
        Checks.readThrows(Checks::crowd, "count a 000", 10);
        Checks.readThrows(Checks::crowd, "count a 1.", 9);
        Checks.readThrows(Checks::crowd, "count a +1", 8);
    }

    private static void counts(String text, int due) {
        CrowdSketches x = new CrowdSketches();
        Object answer = Checks.answer(() -> Checks.read(x, text));
        Checks.same(text, answer, due == 0 ? "IllegalArgumentException" : (Object) 1);
        Checks.same(text + ": no error", x.errorPosition(), -1);
        Checks.same(text + ": the book", x.account(5), due);
    }
}
