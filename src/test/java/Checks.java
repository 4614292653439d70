import java.util.Arrays;
import java.util.Objects;
import java.util.regex.Matcher;
import java.util.regex.Pattern;

/** What the tests of the project share: comparing, expecting exceptions, and a view of an object. */
final class Checks {
    /** A call on the class under test. */
    interface Call {
        Object make();
    }

    /** Makes an object, alike each time. */
    interface Maker {
        CrowdSketches make();
    }

    /** A call on the object given. */
    interface Use {
        Object of(CrowdSketches x);
    }

    private static final String NUMBER = "[0-9]{1,2}";
    private static final String ORDER = "(count [a-z]{1,6} " + NUMBER + "|take [a-z]{1,6} " + NUMBER + "|row " + NUMBER
            + "|salt [0-9] " + NUMBER + "|cells " + NUMBER + "|share " + NUMBER + "|manner plain|manner careful)";
    private static final Pattern ORDERS = Pattern.compile(ORDER + "(;" + ORDER + ")*");

    private static int made = 0;
    private static int wrong = 0;

    private Checks() {
    }

    static void same(String what, Object got, Object want) {
        made++;
        if (!Objects.equals(got, want)) {
            wrong++;
            System.out.println(what + " answered " + got + ", due is " + want);
        }
    }

    /** The very class is due, not one above or below it. */
    static void refuses(String what, Class<? extends RuntimeException> due, Call call) {
        same(what, answer(call), due.getSimpleName());
    }

    /** As refuses, and nothing that can be seen has changed. */
    static void refusesUnchanged(String what, CrowdSketches x, Class<? extends RuntimeException> due, Call call) {
        String before = view(x);
        refuses(what, due, call);
        same(what + " leaves the state", view(x), before);
    }

    /** Throws, and leaves the object like its twin, on which the call was not made. */
    static void throwsAlone(String what, Maker maker, Class<? extends RuntimeException> due, Use use) {
        CrowdSketches x = maker.make();
        CrowdSketches twin = maker.make();
        refuses(what, due, () -> use.of(x));
        likeTwin(what, x, twin, reason(twin), twin.errorPosition());
    }

    /** Is refused so, and but for the reason leaves the object like its twin. */
    static void isRefused(String what, Maker maker, int reason, int detail, Use use) {
        CrowdSketches x = maker.make();
        CrowdSketches twin = maker.make();
        refuses(what, UnsupportedOperationException.class, () -> use.of(x));
        likeTwin(what, x, twin, reason + ", " + detail, twin.errorPosition());
    }

    /** Read of this text throws, and but for the error position leaves the object like its twin. */
    static void readThrows(Maker maker, String text, int position) {
        CrowdSketches x = maker.make();
        CrowdSketches twin = maker.make();
        refuses("read of " + text, IllegalArgumentException.class, () -> read(x, text));
        likeTwin("read of " + text, x, twin, reason(twin), position);
    }

    static void readIsRefused(Maker maker, String text, int reason, int detail) {
        CrowdSketches x = maker.make();
        CrowdSketches twin = maker.make();
        refuses("read of " + text, UnsupportedOperationException.class, () -> read(x, text));
        likeTwin("read of " + text, x, twin, reason + ", " + detail, -1);
    }

    private static void likeTwin(String what, CrowdSketches x, CrowdSketches twin, String reason, int position) {
        same(what + ": the reason then", reason(x), reason);
        same(what + ": the error position then", x.errorPosition(), position);
        same(what + ": what there is then", story(x), story(twin));
    }

    private static String reason(CrowdSketches x) {
        return answer(() -> x.refusal(false)) + ", " + answer(() -> x.refusal(true));
    }

    /** What there is but for the reason and the error position; it undoes all and restores, to see that, too. */
    private static String story(CrowdSketches x) {
        StringBuilder story = new StringBuilder(changeable(x));
        story.append(" line ").append(lineText(x));
        story.append(" input ").append(x.account(11)).append(' ').append(answer(x::named));
        story.append(" undo ").append(x.account(12)).append(" salts ").append(salts(x));
        for (int left = x.account(12); left > 0; left--) {
            story.append(' ').append(x.undo()).append(": ").append(shortly(x));
        }
        story.append(" undo ").append(answer(x::undo));
        story.append(" restore ").append(answer(x::restore)).append(salts(x));
        return story.append(changeable(x)).toString();
    }

    private static String shortly(CrowdSketches x) {
        StringBuilder view = new StringBuilder();
        for (int what = 0; what <= 6; what++) {
            view.append(x.account(what)).append(' ');
        }
        return view.append(x.account(10)).append(' ').append(x.account(13)).append(' ').append(x.shared(0)).toString();
    }

    /** The error position due, or -1; a text can go on if the pattern matches it or came to its end. */
    static int errorOf(String text) {
        for (int i = 1; i <= text.length(); i++) {
            Matcher start = ORDERS.matcher(text.substring(0, i));
            if (!start.matches() && !start.hitEnd()) {
                return i - 1;
            }
        }
        return ORDERS.matcher(text).matches() ? -1 : text.length();
    }

    static Object answer(Call call) {
        try {
            return call.make();
        } catch (RuntimeException e) {
            return e.getClass().getSimpleName();
        }
    }

    static void refusal(String what, CrowdSketches x, int reason, int detail) {
        same(what + ": reason", answer(() -> x.refusal(false)), reason);
        same(what + ": detail", answer(() -> x.refusal(true)), detail);
    }

    static int type(CrowdSketches x, String text) {
        int length = 0;
        for (char c : text.toCharArray()) {
            length = x.append(c);
        }
        return length;
    }

    static int count(CrowdSketches x, String name, int times) {
        type(x, name);
        return x.count(times);
    }

    static int read(CrowdSketches x, String text) {
        type(x, text);
        return x.read();
    }

    /** "bo" 12 times and "ed" 5 times, which share a cell in row 0 of salt 0, but none in row 1 of salt 5. */
    static CrowdSketches pair() {
        CrowdSketches x = new CrowdSketches();
        count(x, "bo", 12);
        count(x, "ed", 5);
        x.resize(2);
        x.row(5);
        return x;
    }

    /**
     * "bo" 11 times and "ed" 5 times, apart in two rows of three cells; two days were ended, one count was taken back,
     * a snapshot was taken ahead of it, a text had an error at 4, a row was refused, and a line was written.
     */
    static CrowdSketches crowd() {
        CrowdSketches x = new CrowdSketches();
        count(x, "bo", 12);
        count(x, "ed", 5);
        x.resize(3);
        x.row(5);
        x.save();
        x.endDay();
        x.take(0, 1);
        x.endDay();
        answer(() -> read(x, "row x"));
        answer(() -> x.resize(3));
        x.line(0);
        return x;
    }

    /** The same with a name in the input, which stays but for count and read. */
    static CrowdSketches typing() {
        CrowdSketches x = crowd();
        type(x, "ed");
        return x;
    }

    static String lineText(CrowdSketches x) {
        StringBuilder text = new StringBuilder();
        for (int i = 0; answer(lineSign(x, i)) instanceof Character c; i++) {
            text.append((char) c);
        }
        return text.toString();
    }

    private static Call lineSign(CrowdSketches x, int index) {
        return () -> x.character(index);
    }

    static String cells(CrowdSketches x, int row) {
        int[] cells = new int[x.account(1)];
        for (int i = 0; i < cells.length; i++) {
            cells[i] = x.cell(row, i);
        }
        return Arrays.toString(cells);
    }

    /** All that can be seen without a change, the line as it stands included. */
    static String view(CrowdSketches x) {
        StringBuilder view = new StringBuilder(changeable(x));
        view.append(" line ").append(lineText(x));
        view.append(" input ").append(x.account(11)).append(' ').append(answer(x::named));
        view.append(" error ").append(x.errorPosition());
        view.append(" reason ").append(answer(() -> x.refusal(false))).append(answer(() -> x.refusal(true)));
        view.append(" undo ").append(x.account(12));
        return view.toString();
    }

    /** What changes can change, and undo and restore bring back; in few calls, since an object has but 512. */
    static String changeable(CrowdSketches x) {
        StringBuilder view = new StringBuilder();
        for (int what = 0; what <= 13; what++) {
            if (what != 11 && what != 12) {
                view.append(x.account(what)).append(' ');
            }
        }
        int rows = x.account(0);
        for (int row = 0; row < rows; row++) {
            view.append("row ").append(cells(x, row)).append(' ');
        }
        int names = x.account(4);
        for (int name = 0; name < names; name++) {
            view.append(nameView(x, name, rows));
        }
        return view.append(x.heavy(true)).append(' ').append(x.isWell()).toString();
    }

    private static String nameView(CrowdSketches x, int name, int rows) {
        StringBuilder view = new StringBuilder();
        for (int i = 0; answer(letter(x, name, i)) instanceof Character c; i++) {
            view.append((char) c);
        }
        for (int row = 0; row < rows; row++) {
            view.append('@').append(x.cellOf(row, name));
        }
        view.append(' ').append(x.guess(name)).append('/').append(x.booked(name)).append(' ').append(x.today(name));
        for (int back = 0; answer(gained(x, name, back)) instanceof Integer gain; back++) {
            view.append(' ').append((int) gain);
        }
        return view.append("; ").toString();
    }

    private static Call letter(CrowdSketches x, int name, int index) {
        return () -> x.letter(name, index);
    }

    private static Call gained(CrowdSketches x, int name, int back) {
        return () -> x.gained(name, back);
    }

    /** It writes lines. */
    static String salts(CrowdSketches x) {
        StringBuilder salts = new StringBuilder();
        int rows = x.account(0);
        for (int row = 0; row < rows; row++) {
            x.rowLine(row);
            char sign = x.character(0);
            for (int i = 1; sign != ':'; i++) {
                salts.append(sign);
                sign = x.character(i);
            }
            salts.append(':');
        }
        return salts.toString();
    }

    static void end() {
        System.out.println(made + " checks, " + wrong + " wrong");
        if (wrong != 0 || made == 0) {
            System.exit(1);
        }
    }
}
