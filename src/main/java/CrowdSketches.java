import java.util.ArrayList;
import java.util.Arrays;
import java.util.NoSuchElementException;

/** A sketch of a crowd: names counted in rows of cells, beside a book of what was truly counted. */
public final class CrowdSketches {
    private static final int MOST_NAMES = 10;
    private static final int MOST_LETTERS = 6;
    private static final int MOST_ROWS = 4;
    private static final int MOST_SALT = 99;
    private static final int FEWEST_CELLS = 2;
    private static final int MOST_CELLS = 16;
    private static final int FIRST_CELLS = 8;
    private static final int MOST_SHARE = 99;
    private static final int FIRST_SHARE = 10;
    private static final int MOST_TIMES = 99;
    private static final int MOST_BOOKED = 9999;
    private static final int LEAST_FACTOR = 7;
    private static final int HASH_DIVISOR = 9973;
    private static final int DAYS_KEPT = 5;
    private static final int INPUT_ROOM = 60;
    private static final int UNDO_ROOM = 8;
    private static final int NONE = -1;

    private static final int NO_REASON = 0;
    private static final int FULL = 1;
    private static final int LAST_ROW = 2;
    private static final int SO_ALREADY = 3;
    private static final int CAREFUL_MANNER = 4;
    private static final int TOO_FEW_COUNTS = 5;
    private static final int TOO_MANY_COUNTS = 6;

    // In the form of an order a capital or "#" stands for what differs from order to order.
    private static final char ANY_NAME = 'N';
    private static final char ANY_DIGIT = 'D';
    private static final char ANY_NUMBER = '#';

    private static final Word[] WORDS = Word.values();

    private final Sketch now = new Sketch();
    private final Sketch trial = new Sketch();
    private final Sketch saved = new Sketch();
    private boolean isSaved = false;

    // The latest changes in a ring: pastNext is where the next state goes.
    private final Sketch[] past = new Sketch[UNDO_ROOM];
    private int pastNext = 0;
    private int pastCount = 0;

    // Not a text, since any character may be appended.
    private final char[] input = new char[INPUT_ROOM];
    private int inputLength = 0;

    private final StringBuilder line = new StringBuilder();
    private int errorOffset = NONE;
    private int reason = NO_REASON;
    private int detail = 0;

    public CrowdSketches() {
        for (int i = 0; i < UNDO_ROOM; i++) {
            past[i] = new Sketch();
        }
    }

    // Rows and manners.

    public int row(int salt) throws IllegalArgumentException, UnsupportedOperationException {
        admit(now.judgeRow(salt));
        remember();
        return now.addRow(salt);
    }

    public int drop(int row) throws IndexOutOfBoundsException, UnsupportedOperationException {
        admit(now.judgeDrop(row));
        remember();
        return now.dropRow(row);
    }

    public int salt(int row, int salt)
            throws IndexOutOfBoundsException, IllegalArgumentException, UnsupportedOperationException {
        admit(now.judgeSalt(row, salt));
        remember();
        return now.changeSalt(row, salt);
    }

    public int resize(int many) throws IllegalArgumentException, UnsupportedOperationException {
        admit(now.judgeCells(many));
        remember();
        return now.changeCells(many);
    }

    public int manner(boolean isCareful) throws UnsupportedOperationException {
        admit(now.judgeManner(isCareful));
        remember();
        return now.changeManner(isCareful);
    }

    public int share(int percent) throws IllegalArgumentException, UnsupportedOperationException {
        admit(now.judgeShare(percent));
        remember();
        return now.changeShare(percent);
    }

    public int cell(int row, int cell) throws IndexOutOfBoundsException {
        requireRow(row);
        if (cell < 0 || cell >= now.cellCount) {
            throw new IndexOutOfBoundsException("there is no such cell");
        }
        return now.rows[row].cells[cell];
    }

    public int cellOf(int row, int name) throws IndexOutOfBoundsException {
        requireRow(row);
        requireName(name);
        return now.placeIn(now.rows[row], now.names[name]);
    }

    public int shared(int row) throws IndexOutOfBoundsException {
        requireRow(row);
        return now.pairsIn(now.rows[row]);
    }

    // Counting.

    public int count(int times) throws IllegalArgumentException, UnsupportedOperationException {
        String text = nameInInput();
        inputLength = 0;
        admit(now.judgeCount(text, times));
        remember();
        return now.countText(text, times);
    }

    public int again(int name, int times)
            throws IndexOutOfBoundsException, IllegalArgumentException, UnsupportedOperationException {
        admit(now.judgeAgain(name, times));
        remember();
        return now.countName(now.names[name], times);
    }

    public int take(int name, int times)
            throws IndexOutOfBoundsException, IllegalArgumentException, UnsupportedOperationException {
        admit(now.judgeTake(name, times));
        remember();
        return now.takeBack(now.names[name], times);
    }

    public int named() throws NoSuchElementException {
        int name = now.find(nameInInput());
        if (name == NONE) {
            throw new NoSuchElementException("no known name is in the input");
        }
        return name;
    }

    public char letter(int name, int index) throws IndexOutOfBoundsException, NoSuchElementException {
        requireName(name);
        String text = now.names[name].text;
        if (index < 0 || index >= text.length()) {
            throw new NoSuchElementException("there is no such letter");
        }
        return text.charAt(index);
    }

    // Guesses and errors.

    public int guess(int name) throws IndexOutOfBoundsException {
        requireName(name);
        return now.guessFor(now.names[name]);
    }

    public int plainGuess(int name) throws IndexOutOfBoundsException {
        requireName(name);
        return now.plainGuessFor(now.names[name]);
    }

    public int booked(int name) throws IndexOutOfBoundsException {
        requireName(name);
        return now.names[name].booked;
    }

    public int error(int name) throws IndexOutOfBoundsException {
        requireName(name);
        return now.errorOf(now.names[name]);
    }

    public int worst() throws NoSuchElementException {
        if (now.nameCount == 0) {
            throw new NoSuchElementException("there are no names");
        }
        return now.worstName();
    }

    public int bound() {
        return now.errorBound();
    }

    public boolean isWithin(int name) throws IndexOutOfBoundsException {
        requireName(name);
        return now.errorOf(now.names[name]) <= now.errorBound();
    }

    public int bestRow(int name) throws IndexOutOfBoundsException {
        requireName(name);
        return now.leastRow(now.names[name]);
    }

    public int heavy(boolean isByBook) {
        return now.heavySet(isByBook);
    }

    public int ranked(int place) throws NoSuchElementException {
        if (place < 0 || place >= now.nameCount) {
            throw new NoSuchElementException("there is no such place");
        }
        return now.nameAtRank(place);
    }

    // Days.

    public int endDay() {
        remember();
        return now.closeDay();
    }

    public int gained(int name, int back) throws IndexOutOfBoundsException, NoSuchElementException {
        requireName(name);
        if (back < 0 || back >= now.daysKept()) {
            throw new NoSuchElementException("the day is not kept");
        }
        return now.names[name].gains[back];
    }

    public int today(int name) throws IndexOutOfBoundsException {
        requireName(name);
        return now.names[name].sinceDayEnd();
    }

    public int busiest() throws NoSuchElementException {
        if (now.daysEnded == 0) {
            throw new NoSuchElementException("no day was ended");
        }
        return now.busiestDay();
    }

    public boolean isRising(int name) throws IndexOutOfBoundsException {
        requireName(name);
        return now.names[name].rises(now.daysKept());
    }

    public int daysLine(int name) throws IndexOutOfBoundsException {
        requireName(name);
        line.setLength(0);
        now.names[name].writeDays(line, now.daysKept());
        return line.length();
    }

    // Lines.

    public int line(int name) throws IndexOutOfBoundsException {
        requireName(name);
        line.setLength(0);
        now.writeName(line, now.names[name]);
        return line.length();
    }

    public int rowLine(int row) throws IndexOutOfBoundsException {
        requireRow(row);
        line.setLength(0);
        now.rows[row].write(line, now.cellCount);
        return line.length();
    }

    public char character(int index) throws IndexOutOfBoundsException {
        if (index < 0 || index >= line.length()) {
            throw new IndexOutOfBoundsException("the line has no such index");
        }
        return line.charAt(index);
    }

    // Input, accounts, undo and snapshot.

    public int append(char c) throws IllegalStateException {
        if (inputLength >= INPUT_ROOM) {
            throw new IllegalStateException("the input is full");
        }
        input[inputLength] = c;
        inputLength++;
        return inputLength;
    }

    public int read() throws IllegalArgumentException, UnsupportedOperationException {
        OrderReader reader = new OrderReader(input, inputLength);
        inputLength = 0;
        errorOffset = reader.readAll();
        if (errorOffset != NONE) {
            throw new IllegalArgumentException("the text has an error");
        }
        trial.copyFrom(now);
        for (int i = 0; i < reader.orders.size(); i++) {
            Order order = reader.orders.get(i);
            admitOrder(order.judgeOn(trial));
            order.carryOutOn(trial);
        }
        remember();
        now.copyFrom(trial);
        return reader.orders.size();
    }

    public int errorPosition() {
        return errorOffset;
    }

    public int refusal(boolean isDetail) throws NoSuchElementException {
        if (reason == NO_REASON) {
            throw new NoSuchElementException("nothing was refused");
        }
        return isDetail ? detail : reason;
    }

    public int account(int what) throws IllegalArgumentException {
        switch (what) {
            case 0:
                return now.rowCount;
            case 1:
                return now.cellCount;
            case 2:
                return now.isCareful ? 1 : 0;
            case 3:
                return now.sharePercent;
            case 4:
                return now.nameCount;
            case 5:
                return now.bookSum();
            case 6:
                return now.cellSum();
            case 7:
                return now.rowCount * now.cellCount - now.fullCells();
            case 8:
                return now.exactNames();
            case 9:
                return Integer.bitCount(now.heavySet(false) & ~now.heavySet(true));
            case 10:
                return now.takenBack;
            case 11:
                return inputLength;
            case 12:
                return pastCount;
            case 13:
                return now.daysEnded;
            default:
                throw new IllegalArgumentException("there is no such account");
        }
    }

    public boolean isWell() {
        return now.isAboveBook() && (now.isCareful || now.isSumOfBook());
    }

    public double meanError() throws ArithmeticException {
        if (now.nameCount == 0) {
            throw new ArithmeticException("there are no names");
        }
        return (double) now.errorSum() / (double) now.nameCount;
    }

    public float fullShare() {
        return (float) now.fullCells() / (float) (now.rowCount * now.cellCount);
    }

    public int undo() throws IllegalStateException {
        if (pastCount == 0) {
            throw new IllegalStateException("no change can be undone");
        }
        pastCount--;
        pastNext = pastNext == 0 ? UNDO_ROOM - 1 : pastNext - 1;
        now.copyFrom(past[pastNext]);
        return pastCount;
    }

    public int save() {
        saved.copyFrom(now);
        isSaved = true;
        return now.nameCount;
    }

    public int restore() throws IllegalStateException {
        if (!isSaved) {
            throw new IllegalStateException("there is no snapshot");
        }
        now.copyFrom(saved);
        pastCount = 0;
        return now.nameCount;
    }

    private void requireRow(int row) {
        if (!now.hasRow(row)) {
            throw new IndexOutOfBoundsException("there is no such row");
        }
    }

    private void requireName(int name) {
        if (!now.hasName(name)) {
            throw new IndexOutOfBoundsException("there is no such name");
        }
    }

    private void admit(Verdict verdict) {
        if (verdict.kind == Kind.NO_PLACE) {
            throw new IndexOutOfBoundsException("there is no such row or name");
        }
        if (verdict.kind == Kind.NO_VALUE) {
            throw new IllegalArgumentException("this is out of range");
        }
        if (verdict.kind == Kind.REFUSED) {
            reason = verdict.reason;
            detail = verdict.detail;
            throw new UnsupportedOperationException("this is refused");
        }
    }

    private void admitOrder(Verdict verdict) {
        if (verdict.kind == Kind.NO_PLACE) {
            throw new IllegalArgumentException("an order names no row or name");
        }
        admit(verdict);
    }

    private void remember() {
        past[pastNext].copyFrom(now);
        pastNext = pastNext + 1 == UNDO_ROOM ? 0 : pastNext + 1;
        pastCount = Math.min(pastCount + 1, UNDO_ROOM);
    }

    /** Empty, which no name is, if the input is not a name. */
    private String nameInInput() {
        if (inputLength > MOST_LETTERS) {
            return "";
        }
        StringBuilder text = new StringBuilder();
        for (int i = 0; i < inputLength; i++) {
            if (!isLetter(input[i])) {
                return "";
            }
            text.append(input[i]);
        }
        return text.toString();
    }

    private static boolean isLetter(char c) {
        return c >= 'a' && c <= 'z';
    }

    private static boolean isDigit(char c) {
        return c >= '0' && c <= '9';
    }

    private enum Kind {
        ADMITTED, NO_PLACE, NO_VALUE, REFUSED
    }

    private static final class Verdict {
        final Kind kind;
        final int reason;
        final int detail;

        private Verdict(Kind kind, int reason, int detail) {
            this.kind = kind;
            this.reason = reason;
            this.detail = detail;
        }

        static Verdict of(Kind kind) {
            return new Verdict(kind, NO_REASON, 0);
        }

        static Verdict refused(int reason, int detail) {
            return new Verdict(Kind.REFUSED, reason, detail);
        }
    }

    private static final class Name {
        String text = "";
        int booked = 0;
        int bookedAtDayEnd = 0;
        // From the latest day back.
        final int[] gains = new int[DAYS_KEPT];

        void copyFrom(Name other) {
            text = other.text;
            booked = other.booked;
            bookedAtDayEnd = other.bookedAtDayEnd;
            System.arraycopy(other.gains, 0, gains, 0, DAYS_KEPT);
        }

        int sinceDayEnd() {
            return booked - bookedAtDayEnd;
        }

        int closeDay() {
            int gain = sinceDayEnd();
            for (int i = DAYS_KEPT - 1; i > 0; i--) {
                gains[i] = gains[i - 1];
            }
            gains[0] = gain;
            bookedAtDayEnd = booked;
            return gain;
        }

        boolean rises(int daysKept) {
            for (int back = 1; back < daysKept && back < DAYS_KEPT; back++) {
                if (gains[back - 1] <= gains[back]) {
                    return false;
                }
            }
            return true;
        }

        void writeDays(StringBuilder out, int daysKept) {
            for (int back = Math.min(daysKept, DAYS_KEPT) - 1; back >= 0; back--) {
                out.append(gains[back]);
                if (back > 0) {
                    out.append(' ');
                }
            }
        }
    }

    private static final class Row {
        int salt = 0;
        final int[] cells = new int[MOST_CELLS];

        void copyFrom(Row other) {
            salt = other.salt;
            System.arraycopy(other.cells, 0, cells, 0, MOST_CELLS);
        }

        void clear() {
            Arrays.fill(cells, 0);
        }

        void write(StringBuilder out, int cellCount) {
            out.append(salt);
            out.append(':');
            for (int i = 0; i < cellCount && i < MOST_CELLS; i++) {
                out.append(' ');
                out.append(cells[i]);
            }
        }
    }

    /** All that changes can change; the judges tell whether a change can be made, the changes only make it. */
    private static final class Sketch {
        final Name[] names = new Name[MOST_NAMES];
        int nameCount = 0;
        final Row[] rows = new Row[MOST_ROWS];
        int rowCount = 1;
        int cellCount = FIRST_CELLS;
        boolean isCareful = false;
        int sharePercent = FIRST_SHARE;
        int takenBack = 0;
        int daysEnded = 0;

        Sketch() {
            for (int i = 0; i < MOST_NAMES; i++) {
                names[i] = new Name();
            }
            for (int i = 0; i < MOST_ROWS; i++) {
                rows[i] = new Row();
            }
        }

        /** The names that are not known yet are copied, too: so they are always as new ones. */
        void copyFrom(Sketch other) {
            for (int i = 0; i < MOST_NAMES; i++) {
                names[i].copyFrom(other.names[i]);
            }
            for (int i = 0; i < MOST_ROWS; i++) {
                rows[i].copyFrom(other.rows[i]);
            }
            nameCount = other.nameCount;
            rowCount = other.rowCount;
            cellCount = other.cellCount;
            isCareful = other.isCareful;
            sharePercent = other.sharePercent;
            takenBack = other.takenBack;
            daysEnded = other.daysEnded;
        }

        boolean hasRow(int row) {
            return row >= 0 && row < rowCount;
        }

        boolean hasName(int name) {
            return name >= 0 && name < nameCount;
        }

        int find(String text) {
            for (int i = 0; i < nameCount; i++) {
                if (names[i].text.equals(text)) {
                    return i;
                }
            }
            return NONE;
        }

        Verdict judgeRow(int salt) {
            if (salt < 0 || salt > MOST_SALT) {
                return Verdict.of(Kind.NO_VALUE);
            }
            if (rowCount >= MOST_ROWS) {
                return Verdict.refused(FULL, MOST_ROWS);
            }
            return Verdict.of(Kind.ADMITTED);
        }

        Verdict judgeDrop(int row) {
            if (!hasRow(row)) {
                return Verdict.of(Kind.NO_PLACE);
            }
            if (rowCount == 1) {
                return Verdict.refused(LAST_ROW, 1);
            }
            return Verdict.of(Kind.ADMITTED);
        }

        Verdict judgeSalt(int row, int salt) {
            if (!hasRow(row)) {
                return Verdict.of(Kind.NO_PLACE);
            }
            return judgeValue(salt, 0, MOST_SALT, rows[row].salt);
        }

        Verdict judgeCells(int many) {
            return judgeValue(many, FEWEST_CELLS, MOST_CELLS, cellCount);
        }

        Verdict judgeShare(int percent) {
            return judgeValue(percent, 1, MOST_SHARE, sharePercent);
        }

        private static Verdict judgeValue(int value, int least, int most, int present) {
            if (value < least || value > most) {
                return Verdict.of(Kind.NO_VALUE);
            }
            if (value == present) {
                return Verdict.refused(SO_ALREADY, present);
            }
            return Verdict.of(Kind.ADMITTED);
        }

        Verdict judgeManner(boolean wantsCareful) {
            if (wantsCareful == isCareful) {
                return Verdict.refused(SO_ALREADY, isCareful ? 1 : 0);
            }
            return Verdict.of(Kind.ADMITTED);
        }

        Verdict judgeCount(String text, int times) {
            if (text.isEmpty() || !isTimes(times)) {
                return Verdict.of(Kind.NO_VALUE);
            }
            int name = find(text);
            if (name != NONE) {
                return judgeAgain(name, times);
            }
            if (nameCount >= MOST_NAMES) {
                return Verdict.refused(FULL, MOST_NAMES);
            }
            return Verdict.of(Kind.ADMITTED);
        }

        Verdict judgeAgain(int name, int times) {
            if (!hasName(name)) {
                return Verdict.of(Kind.NO_PLACE);
            }
            if (!isTimes(times)) {
                return Verdict.of(Kind.NO_VALUE);
            }
            int tooMany = names[name].booked + times - MOST_BOOKED;
            if (tooMany > 0) {
                return Verdict.refused(TOO_MANY_COUNTS, tooMany);
            }
            return Verdict.of(Kind.ADMITTED);
        }

        Verdict judgeTake(int name, int times) {
            if (!hasName(name)) {
                return Verdict.of(Kind.NO_PLACE);
            }
            if (!isTimes(times)) {
                return Verdict.of(Kind.NO_VALUE);
            }
            if (isCareful) {
                return Verdict.refused(CAREFUL_MANNER, 1);
            }
            int missing = times - names[name].booked;
            if (missing > 0) {
                return Verdict.refused(TOO_FEW_COUNTS, missing);
            }
            return Verdict.of(Kind.ADMITTED);
        }

        private static boolean isTimes(int times) {
            return times >= 1 && times <= MOST_TIMES;
        }

        int addRow(int salt) {
            int added = rowCount;
            rowCount++;
            rows[added].salt = salt;
            makeAnew(rows[added]);
            return added;
        }

        int dropRow(int row) {
            for (int i = row; i + 1 < rowCount; i++) {
                rows[i].copyFrom(rows[i + 1]);
            }
            rowCount--;
            return rowCount;
        }

        int changeSalt(int row, int salt) {
            int before = rows[row].salt;
            rows[row].salt = salt;
            makeAnew(rows[row]);
            return before;
        }

        int changeCells(int many) {
            int before = cellCount;
            cellCount = many;
            makeAllAnew();
            return before;
        }

        int changeManner(boolean wantsCareful) {
            isCareful = wantsCareful;
            makeAllAnew();
            return cellSum();
        }

        int changeShare(int percent) {
            int before = sharePercent;
            sharePercent = percent;
            return before;
        }

        int countText(String text, int times) {
            int name = find(text);
            if (name == NONE) {
                name = nameCount;
                nameCount++;
                names[name].text = text;
            }
            return countName(names[name], times);
        }

        int countName(Name name, int times) {
            addToCells(name, times);
            name.booked += times;
            return guessFor(name);
        }

        int takeBack(Name name, int times) {
            addToCells(name, -times);
            name.booked -= times;
            takenBack += times;
            return guessFor(name);
        }

        void takeText(String text, int times) {
            int name = find(text);
            if (hasName(name)) {
                takeBack(names[name], times);
            }
        }

        private void addToCells(Name name, int times) {
            int aim = guessFor(name) + times;
            for (int i = 0; i < rowCount; i++) {
                int[] cells = rows[i].cells;
                int place = placeIn(rows[i], name);
                cells[place] = isCareful ? Math.max(cells[place], aim) : cells[place] + times;
            }
        }

        // One row alone is made anew in the plain manner, even when the manner is careful.
        private void makeAnew(Row row) {
            row.clear();
            for (int i = 0; i < nameCount; i++) {
                row.cells[placeIn(row, names[i])] += names[i].booked;
            }
        }

        private void makeAllAnew() {
            for (int i = 0; i < rowCount; i++) {
                rows[i].clear();
            }
            for (int i = 0; i < nameCount; i++) {
                addToCells(names[i], names[i].booked);
            }
        }

        int closeDay() {
            int sum = 0;
            for (int i = 0; i < nameCount; i++) {
                sum += names[i].closeDay();
            }
            daysEnded++;
            return sum;
        }

        int placeIn(Row row, Name name) {
            int rest = 0;
            for (int i = 0; i < name.text.length(); i++) {
                rest = (rest * (row.salt + LEAST_FACTOR) + (name.text.charAt(i) - 'a' + 1)) % HASH_DIVISOR;
            }
            return rest % cellCount;
        }

        int pairsIn(Row row) {
            int pairs = 0;
            for (int i = 0; i < nameCount; i++) {
                for (int k = 0; k < i; k++) {
                    if (placeIn(row, names[i]) == placeIn(row, names[k])) {
                        pairs++;
                    }
                }
            }
            return pairs;
        }

        int guessFor(Name name) {
            int least = rows[0].cells[placeIn(rows[0], name)];
            for (int i = 1; i < rowCount; i++) {
                least = Math.min(least, rows[i].cells[placeIn(rows[i], name)]);
            }
            return least;
        }

        int leastRow(Name name) {
            int guess = guessFor(name);
            for (int i = 0; i < rowCount; i++) {
                if (rows[i].cells[placeIn(rows[i], name)] == guess) {
                    return i;
                }
            }
            return NONE;
        }

        int plainGuessFor(Name name) {
            int least = bookedInCell(rows[0], placeIn(rows[0], name));
            for (int i = 1; i < rowCount; i++) {
                least = Math.min(least, bookedInCell(rows[i], placeIn(rows[i], name)));
            }
            return least;
        }

        private int bookedInCell(Row row, int cell) {
            int sum = 0;
            for (int i = 0; i < nameCount; i++) {
                if (placeIn(row, names[i]) == cell) {
                    sum += names[i].booked;
                }
            }
            return sum;
        }

        int errorOf(Name name) {
            return guessFor(name) - name.booked;
        }

        int errorSum() {
            int sum = 0;
            for (int i = 0; i < nameCount; i++) {
                sum += errorOf(names[i]);
            }
            return sum;
        }

        int exactNames() {
            int many = 0;
            for (int i = 0; i < nameCount; i++) {
                if (errorOf(names[i]) == 0) {
                    many++;
                }
            }
            return many;
        }

        int worstName() {
            int worst = 0;
            for (int i = 1; i < nameCount; i++) {
                if (errorOf(names[i]) > errorOf(names[worst])) {
                    worst = i;
                }
            }
            return worst;
        }

        int bookSum() {
            int sum = 0;
            for (int i = 0; i < nameCount; i++) {
                sum += names[i].booked;
            }
            return sum;
        }

        int errorBound() {
            return bookSum() / cellCount;
        }

        private boolean isHeavy(int counts) {
            return counts != 0 && counts * 100 >= sharePercent * bookSum();
        }

        int heavySet(boolean isByBook) {
            int set = 0;
            for (int i = 0; i < nameCount; i++) {
                if (isHeavy(isByBook ? names[i].booked : guessFor(names[i]))) {
                    set |= 1 << i;
                }
            }
            return set;
        }

        int nameAtRank(int place) {
            for (int i = 0; i < nameCount; i++) {
                if (namesAheadOf(i) == place) {
                    return i;
                }
            }
            return NONE;
        }

        private int namesAheadOf(int name) {
            int guess = guessFor(names[name]);
            int ahead = 0;
            for (int i = 0; i < nameCount; i++) {
                int other = guessFor(names[i]);
                if (other > guess || other == guess && i < name) {
                    ahead++;
                }
            }
            return ahead;
        }

        int daysKept() {
            return Math.min(daysEnded, DAYS_KEPT);
        }

        int busiestDay() {
            int busiest = 0;
            for (int back = 1; back < daysKept(); back++) {
                if (gainedInDay(back) > gainedInDay(busiest)) {
                    busiest = back;
                }
            }
            return busiest;
        }

        private int gainedInDay(int back) {
            int sum = 0;
            for (int i = 0; i < nameCount; i++) {
                sum += names[i].gains[back];
            }
            return sum;
        }

        void writeName(StringBuilder out, Name name) {
            int guess = guessFor(name);
            out.append(name.text);
            out.append(' ');
            out.append(guess);
            out.append('/');
            out.append(name.booked);
            if (isHeavy(guess)) {
                out.append(isHeavy(name.booked) ? " H" : " h");
            }
        }

        int cellSum() {
            int sum = 0;
            for (int i = 0; i < rowCount; i++) {
                for (int k = 0; k < cellCount; k++) {
                    sum += rows[i].cells[k];
                }
            }
            return sum;
        }

        int fullCells() {
            int many = 0;
            for (int i = 0; i < rowCount; i++) {
                for (int k = 0; k < cellCount; k++) {
                    if (rows[i].cells[k] != 0) {
                        many++;
                    }
                }
            }
            return many;
        }

        boolean isAboveBook() {
            for (int i = 0; i < nameCount; i++) {
                if (errorOf(names[i]) < 0) {
                    return false;
                }
            }
            return true;
        }

        boolean isSumOfBook() {
            for (int i = 0; i < rowCount; i++) {
                for (int k = 0; k < cellCount; k++) {
                    if (rows[i].cells[k] != bookedInCell(rows[i], k)) {
                        return false;
                    }
                }
            }
            return true;
        }
    }

    /** The orders by their forms, which stand for a name, one digit, or one or two digits. */
    private enum Word {
        COUNT("count N #"),
        TAKE("take N #"),
        ROW("row #"),
        SALT("salt D #"),
        CELLS("cells #"),
        SHARE("share #"),
        PLAIN("manner plain"),
        CAREFUL("manner careful");

        final String form;

        Word(String form) {
            this.form = form;
        }
    }

    private static final class Order {
        final Word word;
        final String name;
        final int row;
        final int number;

        Order(Word word, String name, int row, int number) {
            this.word = word;
            this.name = name;
            this.row = row;
            this.number = number;
        }

        Verdict judgeOn(Sketch sketch) {
            switch (word) {
                case COUNT:
                    return sketch.judgeCount(name, number);
                case TAKE:
                    return sketch.judgeTake(sketch.find(name), number);
                case ROW:
                    return sketch.judgeRow(number);
                case SALT:
                    return sketch.judgeSalt(row, number);
                case CELLS:
                    return sketch.judgeCells(number);
                case SHARE:
                    return sketch.judgeShare(number);
                case PLAIN:
                    return sketch.judgeManner(false);
                default:
                    return sketch.judgeManner(true);
            }
        }

        /** Only after the sketch has admitted it. */
        void carryOutOn(Sketch sketch) {
            switch (word) {
                case COUNT:
                    sketch.countText(name, number);
                    break;
                case TAKE:
                    sketch.takeText(name, number);
                    break;
                case ROW:
                    sketch.addRow(number);
                    break;
                case SALT:
                    sketch.changeSalt(row, number);
                    break;
                case CELLS:
                    sketch.changeCells(number);
                    break;
                case SHARE:
                    sketch.changeShare(number);
                    break;
                case PLAIN:
                    sketch.changeManner(false);
                    break;
                default:
                    sketch.changeManner(true);
                    break;
            }
        }
    }

    /** Reads a text of orders; where it can't go on is where the text can't. */
    private static final class OrderReader {
        final ArrayList<Order> orders = new ArrayList<>();
        private final char[] text;
        private final int length;
        private final StringBuilder letters = new StringBuilder();
        private int at = 0;
        private String name = "";
        private int row = 0;
        private int number = 0;

        OrderReader(char[] text, int length) {
            this.text = text;
            this.length = Math.min(length, text.length);
        }

        /** Returns the error position, or NONE. */
        int readAll() {
            for (int i = 0; i <= length; i++) {
                Order order = nextOrder();
                if (order == null) {
                    return at;
                }
                orders.add(order);
                if (at >= length) {
                    return NONE;
                }
                if (text[at] != ';') {
                    return at;
                }
                at++;
            }
            return at;
        }

        /** Null if there is none, and then stands at what fits none of the forms. */
        private Order nextOrder() {
            int start = at;
            int furthest = at;
            for (int i = 0; i < WORDS.length; i++) {
                at = start;
                if (fits(WORDS[i].form)) {
                    return new Order(WORDS[i], name, row, number);
                }
                furthest = Math.max(furthest, at);
            }
            at = furthest;
            return null;
        }

        private boolean fits(String form) {
            for (int i = 0; i < form.length(); i++) {
                if (!fitsPart(form.charAt(i))) {
                    return false;
                }
            }
            return true;
        }

        private boolean fitsPart(char part) {
            if (part == ANY_NAME) {
                return fitsName();
            }
            if (part == ANY_DIGIT) {
                row = digitsUpTo(1);
                return row != NONE;
            }
            if (part == ANY_NUMBER) {
                number = digitsUpTo(2);
                return number != NONE;
            }
            if (at >= length || text[at] != part) {
                return false;
            }
            at++;
            return true;
        }

        private boolean fitsName() {
            letters.setLength(0);
            for (int i = 0; i < MOST_LETTERS && at < length && isLetter(text[at]); i++) {
                letters.append(text[at]);
                at++;
            }
            name = letters.toString();
            return !name.isEmpty();
        }

        /** NONE if there is no digit. */
        private int digitsUpTo(int most) {
            int value = NONE;
            for (int i = 0; i < most && at < length && isDigit(text[at]); i++) {
                value = Math.max(value, 0) * 10 + (text[at] - '0');
                at++;
            }
            return value;
        }
    }
}
