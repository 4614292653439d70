import java.util.NoSuchElementException;

/** Promises 16 to 25: guesses and errors. */
public final class GuessesTest {
    private static final Class<IndexOutOfBoundsException> OUT = IndexOutOfBoundsException.class;
    private static final Class<NoSuchElementException> NONE = NoSuchElementException.class;

    public static void main(String[] args) {
        guess();
        plainGuess();
        booked();
        error();
        worst();
        boundAndWithin();
        bestRow();
        heavy();
        heavyAtTheShare();
        ranked();
        Checks.end();
    }

    /** One letter is in the cell of its number: "a" and "i" share one of 8, "b" and "j", too. */
    private static CrowdSketches letters(String names, int... times) {
        CrowdSketches x = new CrowdSketches();
        for (int i = 0; i < times.length; i++) {
            Checks.count(x, names.substring(i, i + 1), times[i]);
        }
        return x;
    }

    private static void refusesNames(String what, CrowdSketches x, java.util.function.IntFunction<Object> call) {
        String before = Checks.view(x);
        int[] wrong = {x.account(4), -1, Integer.MAX_VALUE, Integer.MIN_VALUE};
        for (int name : wrong) {
            Checks.refuses(what + " of name " + name, OUT, () -> call.apply(name));
        }
        Checks.same(what + " of wrong names leaves the state", Checks.view(x), before);
    }

    private static void guess() {
        CrowdSketches x = Checks.pair();
        Checks.same("promise 16: bo", x.guess(0), 12);
        Checks.same("promise 16: ed", x.guess(1), 5);
        x.drop(1);
        Checks.same("promise 16: ed in one row", x.guess(1), 17);
        x.manner(true);
        Checks.same("promise 16: bo, carefully", x.guess(0), 17);
        refusesNames("promise 16", x, x::guess);
        CrowdSketches none = new CrowdSketches();
        refusesNames("promise 16: without names", none, none::guess);
    }

    private static void plainGuess() {
        CrowdSketches x = letters("aib", 9, 4, 7);
        Checks.same("promise 17: a", x.plainGuess(0), 13);
        Checks.same("promise 17: b", x.plainGuess(2), 7);
        CrowdSketches y = Checks.pair();
        y.drop(1);
        y.manner(true);
        Checks.same("promise 17: in one row", y.plainGuess(1), 17);
        y.row(5);
        Checks.same("promise 17: in two rows", y.plainGuess(1), 5);
        Checks.same("promise 17: stays careful", y.account(2), 1);
        refusesNames("promise 17", y, y::plainGuess);
        carefulIsLessThanPlain();
    }

    /** Found by trying names: in both rows "ed" shares its cell, with another name each time. */
    private static void carefulIsLessThanPlain() {
        CrowdSketches x = Checks.pair();
        Checks.count(x, "d", 9);
        x.manner(true);
        Checks.same("promise 17: by guess", x.guess(1), 9);
        Checks.same("promise 17: plainly", x.plainGuess(1), 14);
    }

    private static void booked() {
        CrowdSketches x = Checks.pair();
        Checks.same("promise 18: bo", x.booked(0), 12);
        x.drop(1);
        x.again(1, 2);
        Checks.same("promise 18: ed, counted", x.booked(1), 7);
        x.take(1, 7);
        Checks.same("promise 18: ed, taken back", x.booked(1), 0);
        refusesNames("promise 18", x, x::booked);
    }

    private static void error() {
        CrowdSketches x = letters("aib", 9, 4, 7);
        Checks.same("promise 19: a", x.error(0), 4);
        Checks.same("promise 19: i", x.error(1), 9);
        Checks.same("promise 19: b", x.error(2), 0);
        refusesNames("promise 19", x, x::error);
    }

    private static void worst() {
        CrowdSketches x = new CrowdSketches();
        Checks.refusesUnchanged("promise 20: no names", x, NONE, x::worst);
        x = letters("baij", 5, 5, 9, 5);
        Checks.same("promise 20: the greatest", x.worst(), 1);
        Checks.same("promise 20: one without errors", letters("ab", 1, 2).worst(), 0);
        Checks.same("promise 20: of several", letters("bcjk", 3, 3, 3, 3).worst(), 0);
        Checks.same("promise 20: the last", letters("bai", 1, 8, 7).worst(), 2);
    }

    private static void boundAndWithin() {
        CrowdSketches x = letters("a", 7);
        Checks.same("promise 21: 7 in 8", x.bound(), 0);
        x.again(0, 1);
        Checks.same("promise 21: 8 in 8", x.bound(), 1);
        x.resize(3);
        Checks.same("promise 21: 8 in 3", x.bound(), 2);
        x.row(4);
        Checks.same("promise 21: rows don't matter", x.bound(), 2);
        CrowdSketches y = letters("aib", 2, 3, 11);
        Checks.same("promise 22: the bound", y.bound(), 2);
        Checks.same("promise 22: above", y.isWithin(0), false);
        Checks.same("promise 22: the same", y.isWithin(1), true);
        Checks.same("promise 22: below", y.isWithin(2), true);
        refusesNames("promise 22", y, y::isWithin);
    }

    private static void bestRow() {
        CrowdSketches x = Checks.pair();
        Checks.same("promise 23: the second", x.bestRow(0), 1);
        x.row(5);
        Checks.same("promise 23: the lowest of two", x.bestRow(1), 1);
        x.drop(0);
        Checks.same("promise 23: the first", x.bestRow(1), 0);
        refusesNames("promise 23", x, x::bestRow);
    }

    private static void heavy() {
        CrowdSketches x = letters("aib", 1, 50, 9);
        Checks.same("promise 24: by the book", x.heavy(true), 0b110);
        Checks.same("promise 24: by guess", x.heavy(false), 0b111);
        x.share(16);
        Checks.same("promise 24: with another share", x.heavy(true), 0b010);
        Checks.same("promise 24: by guess, with it", x.heavy(false), 0b011);
        CrowdSketches y = letters("abc", 3, 1, 5);
        y.share(1);
        y.take(1, 1);
        Checks.same("promise 24: 0 is not heavy", y.heavy(true), 0b101);
        y.take(0, 3);
        y.take(2, 5);
        Checks.same("promise 24: nothing is left", y.heavy(true) + y.heavy(false), 0);
        Checks.same("promise 24: the tenth", letters("abcdefghij", 1, 1, 1, 1, 1, 1, 1, 1, 1, 99).heavy(true), 512);
    }

    /** 10 percent of 40 are 4, which is enough; of 41 they are 4.1, so 4 are too few. */
    private static void heavyAtTheShare() {
        CrowdSketches x = letters("ab", 36, 4);
        Checks.same("promise 24: just the share", x.heavy(true), 0b11);
        x.again(0, 1);
        Checks.same("promise 24: less than the share", x.heavy(true), 0b01);
        Checks.same("promise 24: by guess less, too", x.heavy(false), 0b01);
        CrowdSketches y = letters("ab", 99, 2);
        y.share(99);
        Checks.same("promise 24: 99 percent of 101 are more than 99", y.heavy(true), 0);
        y.take(1, 1);
        Checks.same("promise 24: 99 percent of 100", y.heavy(true), 0b01);
    }

    private static void ranked() {
        CrowdSketches x = letters("baic", 5, 2, 3, 9);
        int[] due = {3, 0, 1, 2};
        for (int place = 0; place < due.length; place++) {
            Checks.same("promise 25: place " + place, x.ranked(place), due[place]);
        }
        Checks.refusesUnchanged("promise 25: place 4", x, NONE, () -> x.ranked(4));
        Checks.refusesUnchanged("promise 25: place -1", x, NONE, () -> x.ranked(-1));
        x.again(2, 1);
        Checks.same("promise 25: by the guess", "" + x.ranked(0) + x.ranked(1) + x.ranked(2) + x.ranked(3), "3120");
    }
}
