import java.util.ArrayDeque;
import java.util.ArrayList;
import java.util.Arrays;
import java.util.Deque;
import java.util.LinkedHashMap;
import java.util.List;
import java.util.Map;
import java.util.NoSuchElementException;

/** Long runs of calls, each answer compared with a second, slower writing of the document. */
public final class ModelTest {
    private static final int RUNS = 3000;
    // One call more is made at the end of a run.
    private static final int CALLS = 511;

    public static void main(String[] args) {
        for (int run = 0; run < RUNS; run++) {
            new Walk(run).go();
        }
        Checks.end();
    }

    /** The document once more, by lists and maps; a state is never changed in part, but copied and replaced. */
    private static final class Model {
        private State state = new State();
        private State saved = null;
        private final Deque<State> past = new ArrayDeque<>();
        private final StringBuilder input = new StringBuilder();
        private String line = "";
        private int errorPosition = -1;
        private int[] refusal = null;

        Object call(String method, int a, int b, boolean flag) {
            switch (method) {
                case "row": case "drop": case "salt": case "resize": case "manner": case "share":
                case "again": case "take": case "endDay":
                    return change(method, a, b, flag);
                case "count":
                    return count(a);
                case "read":
                    return read();
                case "append":
                    if (input.length() == 60) {
                        throw new IllegalStateException();
                    }
                    return input.append((char) a).length();
                case "named":
                    return there(state.names().indexOf(input.toString()));
                case "errorPosition":
                    return errorPosition;
                case "refusal":
                    if (refusal == null) {
                        throw new NoSuchElementException();
                    }
                    return refusal[flag ? 1 : 0];
                case "character":
                    if (a < 0 || a >= line.length()) {
                        throw new IndexOutOfBoundsException();
                    }
                    return line.charAt(a);
                case "undo":
                    if (past.isEmpty()) {
                        throw new IllegalStateException();
                    }
                    state = past.pop();
                    return past.size();
                case "save":
                    saved = new State(state);
                    return state.book.size();
                case "restore":
                    if (saved == null) {
                        throw new IllegalStateException();
                    }
                    state = new State(saved);
                    past.clear();
                    return state.book.size();
                case "line": case "rowLine": case "daysLine":
                    line = state.lineOf(method, a);
                    return line.length();
                case "account":
                    return a == 11 ? (Object) input.length() : a == 12 ? (Object) past.size() : state.account(a);
                default:
                    return state.tell(method, a, b, flag);
            }
        }

        private static int there(int index) {
            if (index < 0) {
                throw new NoSuchElementException();
            }
            return index;
        }

        private Object change(String method, int a, int b, boolean flag) {
            State next = new State(state);
            Object answer;
            try {
                answer = next.change(method, a, b, flag);
            } catch (Refused e) {
                refusal = new int[] {e.reason, e.detail};
                throw new UnsupportedOperationException();
            }
            keep(next);
            return answer;
        }

        private void keep(State next) {
            past.push(state);
            while (past.size() > 8) {
                past.removeLast();
            }
            state = next;
        }

        private Object count(int times) {
            String name = input.toString();
            input.setLength(0);
            State next = new State(state);
            Object answer;
            try {
                answer = next.count(name, times);
            } catch (Refused e) {
                refusal = new int[] {e.reason, e.detail};
                throw new UnsupportedOperationException();
            }
            keep(next);
            return answer;
        }

        private Object read() {
            String text = input.toString();
            input.setLength(0);
            errorPosition = Checks.errorOf(text);
            if (errorPosition >= 0) {
                throw new IllegalArgumentException();
            }
            String[] orders = text.split(";");
            State next = new State(state);
            try {
                for (String order : orders) {
                    next.carryOut(order.split(" "));
                }
            } catch (Refused e) {
                refusal = new int[] {e.reason, e.detail};
                throw new UnsupportedOperationException();
            } catch (IndexOutOfBoundsException e) {
                throw new IllegalArgumentException();
            }
            keep(next);
            return orders.length;
        }
    }

    @SuppressWarnings("serial")
    private static final class Refused extends RuntimeException {
        final int reason;
        final int detail;

        Refused(int reason, int detail) {
            this.reason = reason;
            this.detail = detail;
        }
    }

    private static final class State {
        final Map<String, Integer> book = new LinkedHashMap<>();
        final List<Map<String, Integer>> booksAtDayEnds = new ArrayList<>();
        final List<Integer> salts = new ArrayList<>();
        final List<int[]> rows = new ArrayList<>();
        int cells = 8;
        boolean isCareful = false;
        int share = 10;
        int taken = 0;

        State() {
            salts.add(0);
            rows.add(new int[8]);
        }

        State(State other) {
            book.putAll(other.book);
            booksAtDayEnds.addAll(other.booksAtDayEnds);
            salts.addAll(other.salts);
            for (int[] row : other.rows) {
                rows.add(row.clone());
            }
            cells = other.cells;
            isCareful = other.isCareful;
            share = other.share;
            taken = other.taken;
        }

        List<String> names() {
            return new ArrayList<>(book.keySet());
        }

        String name(int name) {
            List<String> names = names();
            if (name < 0 || name >= names.size()) {
                throw new IndexOutOfBoundsException();
            }
            return names.get(name);
        }

        void needRow(int row) {
            if (row < 0 || row >= rows.size()) {
                throw new IndexOutOfBoundsException();
            }
        }

        static void needRange(int value, int least, int most) {
            if (value < least || value > most) {
                throw new IllegalArgumentException();
            }
        }

        static void needOther(boolean isSo, int detail) {
            if (isSo) {
                throw new Refused(3, detail);
            }
        }

        int cellOf(int row, String name) {
            long rest = 0;
            for (char c : name.toCharArray()) {
                rest = (rest * (7 + salts.get(row)) + "abcdefghijklmnopqrstuvwxyz".indexOf(c) + 1) % 9973;
            }
            return (int) (rest % cells);
        }

        int guess(String name) {
            int least = Integer.MAX_VALUE;
            for (int row = 0; row < rows.size(); row++) {
                least = Math.min(least, rows.get(row)[cellOf(row, name)]);
            }
            return least;
        }

        void mark(String name, int times) {
            int sum = guess(name) + times;
            for (int row = 0; row < rows.size(); row++) {
                int cell = cellOf(row, name);
                if (!isCareful) {
                    rows.get(row)[cell] += times;
                } else if (rows.get(row)[cell] < sum) {
                    rows.get(row)[cell] = sum;
                }
            }
        }

        void makeAnew(int row) {
            int[] anew = new int[cells];
            book.forEach((name, times) -> anew[cellOf(row, name)] += times);
            rows.set(row, anew);
        }

        void makeAllAnew() {
            for (int row = 0; row < rows.size(); row++) {
                rows.set(row, new int[cells]);
            }
            book.forEach(this::mark);
        }

        int count(String name, int times) {
            if (!name.matches("[a-z]{1,6}")) {
                throw new IllegalArgumentException();
            }
            needRange(times, 1, 99);
            if (!book.containsKey(name) && book.size() == 10) {
                throw new Refused(1, 10);
            }
            if (book.getOrDefault(name, 0) + times > 9999) {
                throw new Refused(6, book.getOrDefault(name, 0) + times - 9999);
            }
            mark(name, times);
            book.merge(name, times, Integer::sum);
            return guess(name);
        }

        int take(String name, int times) {
            needRange(times, 1, 99);
            if (isCareful) {
                throw new Refused(4, 1);
            }
            if (book.get(name) < times) {
                throw new Refused(5, times - book.get(name));
            }
            mark(name, -times);
            book.merge(name, -times, Integer::sum);
            taken += times;
            return guess(name);
        }

        Object change(String method, int a, int b, boolean flag) {
            switch (method) {
                case "row":
                    needRange(a, 0, 99);
                    if (rows.size() == 4) {
                        throw new Refused(1, 4);
                    }
                    salts.add(a);
                    rows.add(new int[cells]);
                    makeAnew(rows.size() - 1);
                    return rows.size() - 1;
                case "drop":
                    needRow(a);
                    if (rows.size() == 1) {
                        throw new Refused(2, 1);
                    }
                    salts.remove(a);
                    rows.remove(a);
                    return rows.size();
                case "salt":
                    needRow(a);
                    needRange(b, 0, 99);
                    needOther(salts.get(a) == b, b);
                    int before = salts.set(a, b);
                    makeAnew(a);
                    return before;
                case "resize":
                    needRange(a, 2, 16);
                    needOther(cells == a, a);
                    int cellsBefore = cells;
                    cells = a;
                    makeAllAnew();
                    return cellsBefore;
                case "manner":
                    needOther(isCareful == flag, flag ? 1 : 0);
                    isCareful = flag;
                    makeAllAnew();
                    return account(6);
                case "share":
                    needRange(a, 1, 99);
                    needOther(share == a, a);
                    int shareBefore = share;
                    share = a;
                    return shareBefore;
                case "again":
                    return count(name(a), b);
                case "take":
                    return take(name(a), b);
                case "endDay":
                    booksAtDayEnds.add(new LinkedHashMap<>(book));
                    return dayTotal(0);
                default:
                    throw new AssertionError(method);
            }
        }

        void carryOut(String[] words) {
            int last = words[0].equals("manner") ? 0 : Integer.parseInt(words[words.length - 1]);
            switch (words[0]) {
                case "count":
                    count(words[1], last);
                    break;
                case "take":
                    change("take", names().indexOf(words[1]), last, false);
                    break;
                case "salt":
                    change("salt", Integer.parseInt(words[1]), last, false);
                    break;
                case "cells":
                    change("resize", last, 0, false);
                    break;
                default:
                    change(words[0], last, 0, words[1].equals("careful"));
                    break;
            }
        }

        int gain(String name, int back) {
            int day = booksAtDayEnds.size() - 1 - back;
            int then = booksAtDayEnds.get(day).getOrDefault(name, 0);
            return day == 0 ? then : then - booksAtDayEnds.get(day - 1).getOrDefault(name, 0);
        }

        int kept() {
            return Math.min(5, booksAtDayEnds.size());
        }

        int dayTotal(int back) {
            return book.keySet().stream().mapToInt(name -> gain(name, back)).sum();
        }

        int sum() {
            return book.values().stream().mapToInt(i -> i).sum();
        }

        boolean isHeavy(int counts) {
            return counts != 0 && counts * 100L >= (long) share * sum();
        }

        int heavy(boolean isByBook) {
            int set = 0;
            List<String> names = names();
            for (int i = 0; i < names.size(); i++) {
                if (isHeavy(isByBook ? book.get(names.get(i)) : guess(names.get(i)))) {
                    set += (int) Math.pow(2, i);
                }
            }
            return set;
        }

        int error(String name) {
            return guess(name) - book.get(name);
        }

        List<String> ranking() {
            List<String> ranking = names();
            ranking.sort((one, other) -> guess(other) - guess(one));
            return ranking;
        }

        String lineOf(String method, int a) {
            if (method.equals("rowLine")) {
                needRow(a);
                return salts.get(a) + ":" + Arrays.toString(rows.get(a)).replaceAll("[\\[,]", " ").replaceAll("\\]", "")
                        .replaceAll("  ", " ");
            }
            String name = name(a);
            if (method.equals("line")) {
                String mark = !isHeavy(guess(name)) ? "" : isHeavy(book.get(name)) ? " H" : " h";
                return name + " " + guess(name) + "/" + book.get(name) + mark;
            }
            List<String> days = new ArrayList<>();
            for (int back = kept() - 1; back >= 0; back--) {
                days.add("" + gain(name, back));
            }
            return String.join(" ", days);
        }

        int account(int what) {
            int[] all = rows.stream().flatMapToInt(Arrays::stream).toArray();
            switch (what) {
                case 0: return rows.size();
                case 1: return cells;
                case 2: return isCareful ? 1 : 0;
                case 3: return share;
                case 4: return book.size();
                case 5: return sum();
                case 6: return Arrays.stream(all).sum();
                case 7: return (int) Arrays.stream(all).filter(i -> i == 0).count();
                case 8: return (int) book.keySet().stream().filter(name -> error(name) == 0).count();
                case 9: return (int) book.keySet().stream()
                        .filter(name -> isHeavy(guess(name)) && !isHeavy(book.get(name))).count();
                case 10: return taken;
                case 13: return booksAtDayEnds.size();
                default: throw new IllegalArgumentException();
            }
        }

        Object tell(String method, int a, int b, boolean flag) {
            switch (method) {
                case "cell":
                    needRow(a);
                    if (b < 0 || b >= cells) {
                        throw new IndexOutOfBoundsException();
                    }
                    return rows.get(a)[b];
                case "cellOf":
                    needRow(a);
                    return cellOf(a, name(b));
                case "shared":
                    needRow(a);
                    int ordered = 0;
                    for (String one : book.keySet()) {
                        for (String other : book.keySet()) {
                            ordered += !one.equals(other) && cellOf(a, one) == cellOf(a, other) ? 1 : 0;
                        }
                    }
                    return ordered / 2;
                case "bound":
                    return sum() / cells;
                case "heavy":
                    return heavy(flag);
                case "isWell":
                    return true;
                case "fullShare":
                    int all = rows.size() * cells;
                    return (float) (all - account(7)) / (float) all;
                case "meanError":
                    if (book.isEmpty()) {
                        throw new ArithmeticException();
                    }
                    return (double) book.keySet().stream().mapToInt(this::error).sum() / (double) book.size();
                case "worst":
                    List<String> byError = names();
                    byError.sort((one, other) -> error(other) - error(one));
                    return firstOf(byError, 0);
                case "ranked":
                    return firstOf(ranking(), a);
                case "busiest":
                    int best = Model.there(kept() - 1);
                    for (int back = best; back >= 0; back--) {
                        best = dayTotal(back) >= dayTotal(best) ? back : best;
                    }
                    return best;
                default:
                    return tellOfName(method, name(a), b);
            }
        }

        private int firstOf(List<String> order, int place) {
            if (place < 0 || place >= order.size()) {
                throw new NoSuchElementException();
            }
            return names().indexOf(order.get(place));
        }

        private Object tellOfName(String method, String name, int b) {
            switch (method) {
                case "letter":
                    if (b < 0 || b >= name.length()) {
                        throw new NoSuchElementException();
                    }
                    return name.charAt(b);
                case "guess":
                    return guess(name);
                case "plainGuess":
                    State plain = new State(this);
                    plain.isCareful = false;
                    plain.makeAllAnew();
                    return plain.guess(name);
                case "booked":
                    return book.get(name);
                case "error":
                    return error(name);
                case "isWithin":
                    return error(name) <= sum() / cells;
                case "bestRow":
                    int best = rows.size() - 1;
                    for (int row = best; row >= 0; row--) {
                        best = rows.get(row)[cellOf(row, name)] <= rows.get(best)[cellOf(best, name)] ? row : best;
                    }
                    return best;
                case "gained":
                    if (b < 0 || b >= kept()) {
                        throw new NoSuchElementException();
                    }
                    return gain(name, b);
                case "today":
                    int days = booksAtDayEnds.size();
                    return book.get(name) - (days == 0 ? 0 : booksAtDayEnds.get(days - 1).getOrDefault(name, 0));
                case "isRising":
                    boolean rises = true;
                    for (int back = 0; back + 1 < kept(); back++) {
                        rises &= gain(name, back) > gain(name, back + 1);
                    }
                    return rises;
                default:
                    throw new AssertionError(method);
            }
        }
    }

    /** One object and its model, led by numbers that are the same each time. */
    private static final class Walk {
        private static final String[] NAMES = {"a", "b", "bo", "ed", "anna", "tom", "zoe", "ida", "max", "evelyn",
            "zzzzzz", "lea", "karl"};
        private static final String[] TELLS = {"cell", "cellOf", "shared", "named", "letter", "guess", "plainGuess",
            "booked", "error", "worst", "bound", "isWithin", "bestRow", "heavy", "ranked", "gained", "today",
            "busiest", "isRising", "daysLine", "line", "rowLine", "character", "errorPosition", "refusal", "account",
            "isWell", "meanError", "fullShare"};
        private static final String[] CHANGES = {"row", "drop", "salt", "resize", "manner", "share", "again", "again",
            "take", "take", "endDay", "undo", "save", "restore"};

        private final int run;
        private long seed;
        private final CrowdSketches x = new CrowdSketches();
        private final Model model = new Model();
        private int calls = 0;

        Walk(int run) {
            this.run = run;
            this.seed = run * 7919L + 12345;
        }

        private int any(int bound) {
            seed = seed * 6364136223846793005L + 1442695040888963407L;
            return (int) ((seed >>> 33) % bound);
        }

        void go() {
            while (calls < CALLS) {
                int kind = any(20);
                if (kind < 4) {
                    typed(NAMES[any(2 + run % (NAMES.length - 1))]);
                    both("count", times(), 0, false);
                } else if (kind < 6) {
                    typed(orders());
                    both("read", 0, 0, false);
                } else if (kind < 7) {
                    typed(any(3) == 0 ? "noname7" : NAMES[any(NAMES.length)]);
                    both("named", 0, 0, false);
                } else if (kind < 12) {
                    change();
                } else {
                    tell();
                }
            }
            Checks.same("run " + run + " ends well", x.isWell(), true);
        }

        private int times() {
            return any(8) == 0 ? any(104) - 2 : any(5) == 0 ? 99 : 1 + any(40);
        }

        private void change() {
            String method = CHANGES[any(CHANGES.length)];
            // Restored too often, a run does not get far.
            if (method.equals("restore") && any(4) != 0) {
                return;
            }
            if (method.equals("again") || method.equals("take")) {
                both(method, any(12) - 1, times(), false);
            } else if (method.equals("salt")) {
                both(method, any(6) - 1, any(103) - 2, false);
            } else if (method.equals("resize")) {
                both(method, any(18), 0, false);
            } else if (method.equals("drop")) {
                both(method, any(6) - 1, 0, false);
            } else {
                both(method, any(103) - 1, 0, any(2) == 0);
            }
        }

        private void tell() {
            String method = TELLS[any(TELLS.length)];
            if (method.equals("character")) {
                both(method, any(30) - 1, 0, false);
            } else if (method.equals("account")) {
                both(method, any(16) - 1, 0, false);
            } else if (method.equals("cell")) {
                both(method, any(6) - 1, any(18) - 1, false);
            } else if (method.equals("cellOf")) {
                both(method, any(6) - 1, any(12) - 1, false);
            } else if (method.equals("shared") || method.equals("rowLine")) {
                both(method, any(6) - 1, 0, false);
            } else {
                both(method, any(12) - 1, any(8) - 1, any(2) == 0);
            }
        }

        private String orders() {
            StringBuilder text = new StringBuilder(order());
            while (any(3) != 0) {
                text.append(any(20) == 0 ? " ;" : ";").append(order());
            }
            if (any(4) == 0) {
                int at = any(text.length());
                String signs = "; azAZ019:x\u00e9\u4e00";
                text.setCharAt(at, signs.charAt(any(signs.length())));
            }
            if (any(8) == 0) {
                text.setLength(any(text.length() + 1));
            }
            return text.toString();
        }

        private String order() {
            String name = NAMES[any(NAMES.length)];
            switch (any(9)) {
                case 0: case 1: case 2: return "count " + name + " " + (1 + any(99));
                case 3: return "take " + name + " " + any(20);
                case 4: return "row " + any(100);
                case 5: return "salt " + any(5) + " " + (any(2) == 0 ? "0" + any(10) : "" + any(100));
                case 6: return "cells " + any(18);
                case 7: return "share " + any(100);
                default: return any(2) == 0 ? "manner plain" : "manner careful";
            }
        }

        private void typed(String text) {
            for (char c : text.toCharArray()) {
                both("append", c, 0, false);
            }
        }

        private void both(String method, int a, int b, boolean flag) {
            if (calls >= CALLS) {
                return;
            }
            calls++;
            Object due = Checks.answer(() -> model.call(method, a, b, flag));
            Object got = Checks.answer(() -> call(method, a, b, flag));
            Checks.same("run " + run + ", call " + calls + ": " + method + "(" + a + ", " + b + ", " + flag + ")",
                    got, due);
        }

        private Object call(String method, int a, int b, boolean flag) {
            switch (method) {
                case "row": return x.row(a);
                case "drop": return x.drop(a);
                case "salt": return x.salt(a, b);
                case "resize": return x.resize(a);
                case "manner": return x.manner(flag);
                case "share": return x.share(a);
                case "cell": return x.cell(a, b);
                case "cellOf": return x.cellOf(a, b);
                case "shared": return x.shared(a);
                case "count": return x.count(a);
                case "again": return x.again(a, b);
                case "take": return x.take(a, b);
                case "named": return x.named();
                case "letter": return x.letter(a, b);
                case "guess": return x.guess(a);
                case "plainGuess": return x.plainGuess(a);
                case "booked": return x.booked(a);
                case "error": return x.error(a);
                case "worst": return x.worst();
                case "bound": return x.bound();
                case "isWithin": return x.isWithin(a);
                case "bestRow": return x.bestRow(a);
                case "heavy": return x.heavy(flag);
                case "ranked": return x.ranked(a);
                case "endDay": return x.endDay();
                case "gained": return x.gained(a, b);
                case "today": return x.today(a);
                case "busiest": return x.busiest();
                default: return callMore(method, a, flag);
            }
        }

        private Object callMore(String method, int a, boolean flag) {
            switch (method) {
                case "isRising": return x.isRising(a);
                case "daysLine": return x.daysLine(a);
                case "line": return x.line(a);
                case "rowLine": return x.rowLine(a);
                case "character": return x.character(a);
                case "append": return x.append((char) a);
                case "read": return x.read();
                case "errorPosition": return x.errorPosition();
                case "refusal": return x.refusal(flag);
                case "account": return x.account(a);
                case "isWell": return x.isWell();
                case "meanError": return x.meanError();
                case "fullShare": return x.fullShare();
                case "undo": return x.undo();
                case "save": return x.save();
                case "restore": return x.restore();
                default: throw new AssertionError(method);
            }
        }
    }
}
