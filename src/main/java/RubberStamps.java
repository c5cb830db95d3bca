import java.util.Arrays;

/** A set of rubber stamps, the words that they write, and what can be asked about both. */
public final class RubberStamps {
    public static final int NONE = -1;

    private static final int MOST_BYTES = 150;
    private static final int MOST_STAMPS = 10;
    private static final int MOST_WORDS = 7;
    private static final int STAMP_LETTERS = 5;
    private static final int WORD_LETTERS = 12;
    private static final int COLORS = 4;
    private static final int MOST_LIMIT = 200;
    private static final int MOST_LOAD = 20;
    private static final int MOST_SAVED = 4;
    private static final int VALUES = 9;
    private static final int STAMP_FACTS = 6;
    private static final int WORD_FACTS = 6;
    private static final int CUT_FACTS = 4;
    private static final int WITHOUT_PLAN = 100;

    // A press is told by 2 * stamp + (1 if turned), so that of two presses the better one has the lower code.
    private static final int PRESS_CODES = 2 * MOST_STAMPS;

    // More presses than any word can take, and small enough that 1 can be added.
    private static final int NO_WAY = 1000;

    private static final int BETWEEN_ITEMS = 0;
    private static final int IN_STAMP = 1;
    private static final int IN_WORD = 2;
    private static final int BROKEN = 3;

    // The letters a to z after half a turn; -1 for those that are no letter then.
    private static final int[] TURNED = {
        -1, 16, -1, 15, -1, -1, -1, -1, -1, -1, -1, 11, 22,
        20, 14, 3, 1, -1, 18, -1, 13, -1, 12, 23, -1, 25
    };

    private final int[] text = new int[MOST_BYTES];
    private int textLength;
    private final Sheet sheet = new Sheet();
    // What the text says. Nothing is pressed here, so that its inks stay those of new stamps.
    private final Sheet draft = new Sheet();
    private final History history = new History();
    private final Fits fits = new Fits();
    private final Plan plan = new Plan();
    private final Inks trial = new Inks();
    private final OrderSearch orders = new OrderSearch();
    private final CutSearch cuts = new CutSearch();

    public RubberStamps() {
    }

    // ---- set

    public int append(int value) throws IllegalArgumentException, IllegalStateException {
        if (value < 0 || value > 127) {
            throw new IllegalArgumentException("a byte is 0 to 127");
        }
        if (textLength < 0 || textLength >= text.length) {
            throw new IllegalStateException("the text is full");
        }
        text[textLength] = value;
        textLength++;
        return textLength;
    }

    public int clearText() {
        int length = textLength;
        textLength = 0;
        return length;
    }

    public int parse() {
        int error = readText();
        if (error != NONE) {
            return -10 - error;
        }
        history.push(sheet);
        sheet.takeItems(draft);
        fits.rebuild(sheet);
        return sheet.stamps.count + sheet.words.count;
    }

    public int cut(int word, int from, int length)
            throws IndexOutOfBoundsException, IllegalArgumentException, IllegalStateException {
        if (!sheet.words.has(word)) {
            throw new IndexOutOfBoundsException("no such word");
        }
        if (!sheet.words.hasPart(word, from, length) || length > STAMP_LETTERS) {
            throw new IllegalArgumentException("no such part");
        }
        if (sheet.stamps.isFull()) {
            throw new IllegalStateException("there are 10 stamps");
        }
        history.push(sheet);
        sheet.addPart(word, from, length);
        fits.rebuild(sheet);
        return sheet.stamps.count - 1;
    }

    public int remove(int stamp) throws IndexOutOfBoundsException {
        if (!sheet.stamps.has(stamp)) {
            throw new IndexOutOfBoundsException("no such stamp");
        }
        history.push(sheet);
        sheet.takeOutStamp(stamp);
        fits.rebuild(sheet);
        return sheet.stamps.count;
    }

    public int drop(int word) throws IndexOutOfBoundsException {
        if (!sheet.words.has(word)) {
            throw new IndexOutOfBoundsException("no such word");
        }
        history.push(sheet);
        sheet.takeOutWord(word);
        fits.rebuild(sheet);
        return sheet.words.count;
    }

    public int setColor(int word, int color) throws IndexOutOfBoundsException, IllegalArgumentException {
        if (!sheet.words.has(word)) {
            throw new IndexOutOfBoundsException("no such word");
        }
        if (color < 0 || color >= COLORS) {
            throw new IllegalArgumentException("a color is 0 to 3");
        }
        history.push(sheet);
        int previous = sheet.colorOf(word);
        sheet.paint(word, color);
        return previous;
    }

    public int setLimits(int limit, int load) throws IllegalArgumentException {
        if (limit < 1 || limit > MOST_LIMIT || load < 1 || load > MOST_LOAD) {
            throw new IllegalArgumentException("limit is 1 to 200, load 1 to 20");
        }
        history.push(sheet);
        int previous = sheet.limit;
        sheet.limit = limit;
        sheet.load = load;
        return previous;
    }

    public int clean(int stamp) throws IndexOutOfBoundsException {
        if (!sheet.stamps.has(stamp)) {
            throw new IndexOutOfBoundsException("no such stamp");
        }
        history.push(sheet);
        return sheet.inks.wash(stamp) ? 1 : 0;
    }

    public int value(int what) throws IllegalArgumentException {
        if (what < 0 || what >= VALUES) {
            throw new IllegalArgumentException("what is 0 to 8");
        }
        return numberOf(what);
    }

    public int stamp(int stamp, int what) throws IndexOutOfBoundsException, IllegalArgumentException {
        if (!sheet.stamps.has(stamp)) {
            throw new IndexOutOfBoundsException("no such stamp");
        }
        if (what < 0 || what >= STAMP_FACTS) {
            throw new IllegalArgumentException("what is 0 to 5");
        }
        return stampFact(stamp, what);
    }

    public int print(int stamp, int index, boolean turned) throws IndexOutOfBoundsException {
        if (!sheet.stamps.hasLetter(stamp, index)) {
            throw new IndexOutOfBoundsException("no such letter of a stamp");
        }
        if (turned && !canBeTurned(sheet.stamps, stamp)) {
            return NONE;
        }
        return printedLetter(sheet.stamps, stamp, index, turned);
    }

    public int word(int word, int what) throws IndexOutOfBoundsException, IllegalArgumentException {
        if (!sheet.words.has(word)) {
            throw new IndexOutOfBoundsException("no such word");
        }
        if (what < 0 || what >= WORD_FACTS) {
            throw new IllegalArgumentException("what is 0 to 5");
        }
        return wordFact(word, what);
    }

    public int letter(int word, int index) throws IndexOutOfBoundsException {
        if (!sheet.words.hasLetter(word, index)) {
            throw new IndexOutOfBoundsException("no such letter of a word");
        }
        return sheet.words.letterAt(word, index);
    }

    public int press(int word, int index) throws IndexOutOfBoundsException {
        if (!sheet.words.has(word)) {
            throw new IndexOutOfBoundsException("no such word");
        }
        Plan best = bestPlan(word);
        if (index < 0 || index >= best.presses) {
            throw new IndexOutOfBoundsException("no such press");
        }
        return best.codeAt(index);
    }

    // ---- writing

    public int write(int word) throws IndexOutOfBoundsException, IllegalStateException {
        if (!sheet.words.has(word)) {
            throw new IndexOutOfBoundsException("no such word");
        }
        Plan best = bestPlan(word);
        if (!best.isPossible(sheet.inks, sheet.limit)) {
            throw new IllegalStateException("the word can not be written");
        }
        history.push(sheet);
        best.carryOut(sheet.inks, sheet.colorOf(word), sheet.load);
        return best.presses;
    }

    public int writeAll() {
        history.push(sheet);
        int written = 0;
        for (int word = 0; word < sheet.words.count; word++) {
            Plan best = bestPlan(word);
            if (best.isPossible(sheet.inks, sheet.limit)) {
                best.carryOut(sheet.inks, sheet.colorOf(word), sheet.load);
                written++;
            }
        }
        return written;
    }

    // ---- what if

    public int fewest() {
        return fewestStamps();
    }

    public int needed(int stamp) throws IndexOutOfBoundsException {
        if (!sheet.stamps.has(stamp)) {
            throw new IndexOutOfBoundsException("no such stamp");
        }
        int all = sheet.pressesLeft(sheet.inks);
        int others = all & ~pressesOf(stamp);
        int count = 0;
        for (int word = 0; word < sheet.words.count; word++) {
            if (hasPlan(word, all) && !hasPlan(word, others)) {
                count++;
            }
        }
        return count;
    }

    public int order(int index) throws IndexOutOfBoundsException, IllegalStateException {
        if (!sheet.words.has(index)) {
            throw new IndexOutOfBoundsException("there are not so many words");
        }
        if (orders.search(sheet, fits) == NONE) {
            throw new IllegalStateException("there is no such order");
        }
        return orders.wordAt(index);
    }

    public int leastCleanings() {
        return orders.search(sheet, fits);
    }

    public int bestCut(int what, int length) throws IllegalArgumentException {
        if (what < 0 || what >= CUT_FACTS || length < 1 || length > STAMP_LETTERS) {
            throw new IllegalArgumentException("what is 0 to 3, length 1 to 5");
        }
        cuts.search(sheet, length);
        switch (what) {
            case 0: return cuts.bestWord;
            case 1: return cuts.bestFrom;
            case 2: return cuts.bestLength;
            default: return cuts.bestSaving;
        }
    }

    public double lettersPerPress() {
        int usable = sheet.pressesLeft(sheet.inks);
        int letters = 0;
        int presses = 0;
        for (int word = 0; word < sheet.words.count; word++) {
            int least = plan.measure(fits, word, sheet.words.lengthOf(word), usable);
            if (least != NONE) {
                letters += sheet.words.lengthOf(word);
                presses += least;
            }
        }
        return presses > 0 ? (double) letters / (double) presses : 0.0;
    }

    // ---- state

    public int undo() throws IllegalStateException {
        if (history.count <= 0) {
            throw new IllegalStateException("there is no saved state");
        }
        history.pop(sheet);
        fits.rebuild(sheet);
        return history.count;
    }

    public long digest() {
        long hash = 31L * 3389L + textLength;
        for (int what = 0; what < VALUES; what++) {
            hash = 31L * hash + numberOf(what);
        }
        for (int stamp = 0; stamp < sheet.stamps.count; stamp++) {
            hash = mixStamp(hash, stamp);
        }
        for (int word = 0; word < sheet.words.count; word++) {
            hash = mixWord(hash, word);
        }
        hash = 31L * hash + fewestStamps();
        return 31L * hash + history.count;
    }

    private long mixStamp(long start, int stamp) {
        long hash = start;
        for (int what = 0; what < STAMP_FACTS; what++) {
            hash = 31L * hash + stampFact(stamp, what);
        }
        return mixLetters(hash, sheet.stamps, stamp);
    }

    private long mixWord(long start, int word) {
        long hash = start;
        for (int what = 0; what < WORD_FACTS; what++) {
            hash = 31L * hash + wordFact(word, what);
        }
        hash = mixLetters(hash, sheet.words, word);
        Plan best = bestPlan(word);
        for (int i = 0; i < best.presses; i++) {
            hash = 31L * hash + best.codeAt(i);
        }
        return hash;
    }

    private static long mixLetters(long start, Rows rows, int row) {
        long hash = start;
        int length = rows.lengthOf(row);
        for (int i = 0; i < length; i++) {
            hash = 31L * hash + rows.letterAt(row, i);
        }
        return hash;
    }

    /** Reads the text into the draft, so that a syntax error leaves the set alone; NONE or the error position. */
    private int readText() {
        draft.empty();
        int stage = BETWEEN_ITEMS;
        for (int i = 0; i < textLength && i < text.length; i++) {
            stage = nextStage(draft, stage, text[i]);
            if (stage == BROKEN) {
                return i;
            }
        }
        return stage == BETWEEN_ITEMS ? NONE : textLength;
    }

    private static int nextStage(Sheet draft, int stage, int sign) {
        if (stage == BETWEEN_ITEMS) {
            return openItem(draft, sign);
        }
        Rows rows = stage == IN_STAMP ? draft.stamps : draft.words;
        if (sign == ';') {
            return rows.lengthOf(rows.count - 1) > 0 ? BETWEEN_ITEMS : BROKEN;
        }
        boolean taken = sign >= 'a' && sign <= 'z' && rows.addLetter(sign - 'a');
        return taken ? stage : BROKEN;
    }

    private static int openItem(Sheet draft, int sign) {
        if (sign == '*') {
            return draft.stamps.open() ? IN_STAMP : BROKEN;
        }
        int color = sign - '0';
        if (color < 0 || color >= COLORS || !draft.words.open()) {
            return BROKEN;
        }
        draft.paint(draft.words.count - 1, color);
        return IN_WORD;
    }

    private int numberOf(int what) {
        switch (what) {
            case 0: return sheet.stamps.count;
            case 1: return sheet.words.count;
            case 2: return sheet.limit;
            case 3: return sheet.load;
            case 4: return sheet.inks.presses;
            case 5: return sheet.inks.inkings;
            case 6: return sheet.inks.cleanings;
            case 7: return wornOutStamps();
            default: return wordsWithPlan();
        }
    }

    private int wornOutStamps() {
        int count = 0;
        for (int stamp = 0; stamp < sheet.stamps.count; stamp++) {
            if (sheet.isWornOut(sheet.inks, stamp)) {
                count++;
            }
        }
        return count;
    }

    private int wordsWithPlan() {
        int usable = sheet.pressesLeft(sheet.inks);
        int count = 0;
        for (int word = 0; word < sheet.words.count; word++) {
            if (hasPlan(word, usable)) {
                count++;
            }
        }
        return count;
    }

    private int stampFact(int stamp, int what) {
        switch (what) {
            case 0: return sheet.stamps.lengthOf(stamp);
            case 1: return sheet.inks.inkOf(stamp);
            case 2: return sheet.inks.amountOf(stamp);
            case 3: return sheet.inks.wearOf(stamp);
            case 4: return canBeTurned(sheet.stamps, stamp) ? 1 : 0;
            default: return sheet.isWornOut(sheet.inks, stamp) ? 1 : 0;
        }
    }

    private int wordFact(int word, int what) {
        switch (what) {
            case 0: return sheet.words.lengthOf(word);
            case 1: return sheet.colorOf(word);
            case 2: return bestPlan(word).presses;
            case 3: return bestPlan(word).isPossible(sheet.inks, sheet.limit) ? 1 : 0;
            default: return writingCost(bestPlan(word), word, what == 5);
        }
    }

    /** What writing the word now would add to the inkings or cleanings, tried on a copy of the inks. */
    private int writingCost(Plan best, int word, boolean cleanings) {
        if (!best.isPossible(sheet.inks, sheet.limit)) {
            return NONE;
        }
        trial.copyFrom(sheet.inks);
        best.carryOut(trial, sheet.colorOf(word), sheet.load);
        return cleanings ? trial.cleanings - sheet.inks.cleanings : trial.inkings - sheet.inks.inkings;
    }

    private Plan bestPlan(int word) {
        plan.find(sheet, fits, word, sheet.pressesLeft(sheet.inks));
        return plan;
    }

    private boolean hasPlan(int word, int usable) {
        return plan.measure(fits, word, sheet.words.lengthOf(word), usable) != NONE;
    }

    private int fewestStamps() {
        int left = sheet.pressesLeft(sheet.inks);
        int best = NONE;
        int bestCount = MOST_STAMPS + 1;
        for (int set = 0; set < 1 << sheet.stamps.count; set++) {
            int usable = pressesOfSet(set);
            // Ascending numbers: a later set of the same size is never better.
            if (Integer.bitCount(set) < bestCount && (usable & ~left) == 0 && allHavePlans(usable)) {
                best = set;
                bestCount = Integer.bitCount(set);
            }
        }
        return best;
    }

    private boolean allHavePlans(int usable) {
        for (int word = 0; word < sheet.words.count; word++) {
            if (!hasPlan(word, usable)) {
                return false;
            }
        }
        return true;
    }

    private static int pressesOfSet(int set) {
        int presses = 0;
        for (int stamp = 0; stamp < MOST_STAMPS; stamp++) {
            if ((set >> stamp & 1) != 0) {
                presses |= pressesOf(stamp);
            }
        }
        return presses;
    }

    private static int pressesOf(int stamp) {
        return 3 << 2 * stamp;
    }

    private static boolean canBeTurned(Rows stamps, int stamp) {
        int length = stamps.lengthOf(stamp);
        for (int i = 0; i < length; i++) {
            if (turnedLetter(stamps.letterAt(stamp, i)) == NONE) {
                return false;
            }
        }
        return true;
    }

    private static int printedLetter(Rows stamps, int stamp, int index, boolean turned) {
        if (!turned) {
            return stamps.letterAt(stamp, index);
        }
        return turnedLetter(stamps.letterAt(stamp, stamps.lengthOf(stamp) - 1 - index));
    }

    private static int turnedLetter(int letter) {
        return letter >= 0 && letter < TURNED.length ? TURNED[letter] : NONE;
    }

    /** Rows of letters: the stamps, or the words. All have the same room, so that a copy always fits. */
    private static final class Rows {
        private static final int ROOM = MOST_STAMPS * WORD_LETTERS;

        private final int mostRows;
        private final int mostLetters;
        private final int[] lengths = new int[MOST_STAMPS];
        private final int[] letters = new int[ROOM];
        private int count;

        private Rows(int mostRows, int mostLetters) {
            this.mostRows = Math.min(mostRows, MOST_STAMPS);
            this.mostLetters = Math.min(mostLetters, WORD_LETTERS);
        }

        private boolean has(int row) {
            return row >= 0 && row < count && row < MOST_STAMPS;
        }

        private boolean hasLetter(int row, int index) {
            return row >= 0 && row < count && row < MOST_STAMPS
                && index >= 0 && index < lengths[row] && index < WORD_LETTERS;
        }

        private boolean hasPart(int row, int from, int length) {
            return hasLetter(row, from) && length >= 1 && length <= lengths[row] - from;
        }

        private boolean isFull() {
            return count >= mostRows;
        }

        private int lengthOf(int row) {
            return has(row) ? lengths[row] : 0;
        }

        private int letterAt(int row, int index) {
            return hasLetter(row, index) ? letters[row * WORD_LETTERS + index] : NONE;
        }

        /** Begins a row without letters; false if there is no room for it. */
        private boolean open() {
            if (count < 0 || count >= mostRows) {
                return false;
            }
            lengths[count] = 0;
            count++;
            return true;
        }

        /** Adds a letter to the last row; false if there is no room for it. */
        private boolean addLetter(int letter) {
            int row = count - 1;
            if (!has(row)) {
                return false;
            }
            int length = lengths[row];
            if (length < 0 || length >= mostLetters) {
                return false;
            }
            letters[row * WORD_LETTERS + length] = letter;
            lengths[row] = length + 1;
            return true;
        }

        private void takeOut(int row) {
            if (!has(row)) {
                return;
            }
            int behind = row + 1;
            int rest = count - behind;
            System.arraycopy(lengths, behind, lengths, row, rest);
            System.arraycopy(letters, behind * WORD_LETTERS, letters, row * WORD_LETTERS, rest * WORD_LETTERS);
            count--;
        }

        private void copyFrom(Rows other) {
            System.arraycopy(other.lengths, 0, lengths, 0, MOST_STAMPS);
            System.arraycopy(other.letters, 0, letters, 0, ROOM);
            count = other.count;
        }
    }

    /** What pressing changes: apart from the letters, so that writing can be tried on a copy. */
    private static final class Inks {
        private final int[] ink = new int[MOST_STAMPS];
        private final int[] amount = new int[MOST_STAMPS];
        private final int[] wear = new int[MOST_STAMPS];
        private int presses;
        private int inkings;
        private int cleanings;

        private Inks() {
            Arrays.fill(ink, NONE);
        }

        private static boolean isNumber(int stamp) {
            return stamp >= 0 && stamp < MOST_STAMPS;
        }

        private int inkOf(int stamp) {
            return isNumber(stamp) ? ink[stamp] : NONE;
        }

        private int amountOf(int stamp) {
            return isNumber(stamp) ? amount[stamp] : 0;
        }

        private int wearOf(int stamp) {
            return isNumber(stamp) ? wear[stamp] : 0;
        }

        private void renew(int stamp) {
            if (isNumber(stamp)) {
                ink[stamp] = NONE;
                amount[stamp] = 0;
                wear[stamp] = 0;
            }
        }

        private void takeOut(int stamp) {
            if (isNumber(stamp)) {
                int rest = MOST_STAMPS - 1 - stamp;
                System.arraycopy(ink, stamp + 1, ink, stamp, rest);
                System.arraycopy(amount, stamp + 1, amount, stamp, rest);
                System.arraycopy(wear, stamp + 1, wear, stamp, rest);
            }
        }

        /** Takes the ink off a stamp; whether it had one. */
        private boolean wash(int stamp) {
            if (!isNumber(stamp)) {
                return false;
            }
            boolean inked = ink[stamp] != NONE;
            if (inked) {
                cleanings++;
            }
            ink[stamp] = NONE;
            amount[stamp] = 0;
            return inked;
        }

        private void pressOnce(int stamp, int color, int load) {
            if (!isNumber(stamp)) {
                return;
            }
            if (ink[stamp] != color && ink[stamp] != NONE) {
                cleanings++;
            }
            if (ink[stamp] != color || amount[stamp] == 0) {
                inkings++;
                ink[stamp] = color;
                amount[stamp] = load;
            }
            amount[stamp]--;
            wear[stamp]++;
            presses++;
        }

        private void copyFrom(Inks other) {
            System.arraycopy(other.ink, 0, ink, 0, MOST_STAMPS);
            System.arraycopy(other.amount, 0, amount, 0, MOST_STAMPS);
            System.arraycopy(other.wear, 0, wear, 0, MOST_STAMPS);
            presses = other.presses;
            inkings = other.inkings;
            cleanings = other.cleanings;
        }
    }

    /** All that a saved state contains. */
    private static final class Sheet {
        private final Rows stamps = new Rows(MOST_STAMPS, STAMP_LETTERS);
        private final Rows words = new Rows(MOST_WORDS, WORD_LETTERS);
        private final int[] colors = new int[MOST_WORDS];
        private final Inks inks = new Inks();
        private int limit = 100;
        private int load = 5;

        private void empty() {
            stamps.count = 0;
            words.count = 0;
        }

        private int colorOf(int word) {
            return word >= 0 && word < MOST_WORDS ? colors[word] : NONE;
        }

        private void paint(int word, int color) {
            if (word >= 0 && word < MOST_WORDS) {
                colors[word] = color;
            }
        }

        private void addPart(int word, int from, int length) {
            if (!stamps.open()) {
                return;
            }
            for (int i = 0; i < length && i < STAMP_LETTERS; i++) {
                stamps.addLetter(words.letterAt(word, from + i));
            }
            // A stamp that was taken out may have left its ink and wear at this number.
            inks.renew(stamps.count - 1);
        }

        private void takeOutStamp(int stamp) {
            stamps.takeOut(stamp);
            inks.takeOut(stamp);
        }

        private void takeOutWord(int word) {
            words.takeOut(word);
            if (word >= 0 && word < MOST_WORDS) {
                System.arraycopy(colors, word + 1, colors, word, MOST_WORDS - 1 - word);
            }
        }

        private boolean isWornOut(Inks state, int stamp) {
            return state.wearOf(stamp) >= limit;
        }

        /** The presses, as bits, of the stamps that are not worn out in the given state of the inks. */
        private int pressesLeft(Inks state) {
            int presses = 0;
            for (int stamp = 0; stamp < stamps.count; stamp++) {
                if (!isWornOut(state, stamp)) {
                    presses |= pressesOf(stamp);
                }
            }
            return presses;
        }

        private void takeItems(Sheet other) {
            stamps.copyFrom(other.stamps);
            words.copyFrom(other.words);
            System.arraycopy(other.colors, 0, colors, 0, MOST_WORDS);
            inks.copyFrom(other.inks);
        }

        private void copyFrom(Sheet other) {
            takeItems(other);
            limit = other.limit;
            load = other.load;
        }
    }

    /** The last saved states, the oldest first. */
    private static final class History {
        private final Sheet[] kept = new Sheet[MOST_SAVED];
        private int count;

        private History() {
            for (int i = 0; i < MOST_SAVED; i++) {
                kept[i] = new Sheet();
            }
        }

        private void push(Sheet now) {
            if (count >= MOST_SAVED) {
                forgetOldest();
            }
            if (count >= 0 && count < MOST_SAVED && kept[count] != null) {
                kept[count].copyFrom(now);
                count++;
            }
        }

        private void forgetOldest() {
            // The oldest sheet is written anew as the latest one, so that no call makes a sheet.
            Sheet oldest = kept[0];
            for (int i = 1; i < MOST_SAVED; i++) {
                kept[i - 1] = kept[i];
            }
            kept[MOST_SAVED - 1] = oldest;
            count = MOST_SAVED - 1;
        }

        private void pop(Sheet into) {
            if (count > 0 && count <= MOST_SAVED && kept[count - 1] != null) {
                count--;
                into.copyFrom(kept[count]);
            }
        }
    }

    /** Which presses, as bits, print the letters of a word from a place on, by the length of the print. */
    private static final class Fits {
        private static final int ROOM = MOST_WORDS * WORD_LETTERS * STAMP_LETTERS;

        private final int[] presses = new int[ROOM];

        private static int cellOf(int word, int place, int length) {
            return (word * WORD_LETTERS + place) * STAMP_LETTERS + length - 1;
        }

        private int at(int word, int place, int length) {
            int cell = cellOf(word, place, length);
            return cell >= 0 && cell < ROOM ? presses[cell] : 0;
        }

        private void rebuild(Sheet sheet) {
            Arrays.fill(presses, 0);
            for (int stamp = 0; stamp < sheet.stamps.count; stamp++) {
                add(sheet, stamp);
            }
        }

        private void add(Sheet sheet, int stamp) {
            int length = sheet.stamps.lengthOf(stamp);
            for (int word = 0; word < sheet.words.count; word++) {
                int last = sheet.words.lengthOf(word) - length;
                for (int place = 0; place <= last; place++) {
                    int cell = cellOf(word, place, length);
                    if (cell >= 0 && cell < ROOM) {
                        presses[cell] |= fitting(sheet, stamp, false, word, place);
                        presses[cell] |= fitting(sheet, stamp, true, word, place);
                    }
                }
            }
        }

        /** The bit of a press if it prints the letters of the word from the place on, otherwise 0. */
        private static int fitting(Sheet sheet, int stamp, boolean turned, int word, int place) {
            int length = sheet.stamps.lengthOf(stamp);
            for (int i = 0; i < length; i++) {
                // A letter that can't be turned is NONE here, and NONE stands in no word.
                if (printedLetter(sheet.stamps, stamp, i, turned) != sheet.words.letterAt(word, place + i)) {
                    return 0;
                }
            }
            return 1 << 2 * stamp + (turned ? 1 : 0);
        }

        private void erase(int stamp) {
            int others = ~pressesOf(stamp);
            for (int cell = 0; cell < ROOM; cell++) {
                presses[cell] &= others;
            }
        }
    }

    /** The best plan for a word. */
    private static final class Plan {
        // least[p]: the fewest presses for the letters from p on.
        private final int[] least = new int[WORD_LETTERS + 1];
        private final int[] codes = new int[WORD_LETTERS];
        private final int[] uses = new int[MOST_STAMPS];
        private int presses = NONE;

        /** The fewest presses for a word, out of the usable ones; NONE if there is no plan. */
        private int measure(Fits fits, int word, int length, int usable) {
            if (length < 0 || length > WORD_LETTERS) {
                return NONE;
            }
            least[length] = 0;
            for (int place = length - 1; place >= 0; place--) {
                int best = NO_WAY;
                for (int step = 1; step <= STAMP_LETTERS && place + step <= length; step++) {
                    if ((fits.at(word, place, step) & usable) != 0) {
                        best = Math.min(best, least[place + step] + 1);
                    }
                }
                least[place] = best;
            }
            return least[0] < NO_WAY ? least[0] : NONE;
        }

        private void find(Sheet sheet, Fits fits, int word, int usable) {
            int length = sheet.words.lengthOf(word);
            presses = measure(fits, word, length, usable);
            Arrays.fill(uses, 0);
            int place = 0;
            for (int i = 0; i < presses && i < WORD_LETTERS; i++) {
                int code = lowestOf(shortestPresses(fits, word, place, length) & usable);
                int stamp = code >> 1;
                codes[i] = code;
                if (Inks.isNumber(stamp)) {
                    uses[stamp]++;
                }
                place += sheet.stamps.lengthOf(stamp);
            }
        }

        /** The presses, as bits, with which a plan from a place on stays a shortest one. */
        private int shortestPresses(Fits fits, int word, int place, int length) {
            if (place < 0 || place > length || length > WORD_LETTERS) {
                return 0;
            }
            int found = 0;
            for (int step = 1; step <= STAMP_LETTERS && place + step <= length; step++) {
                if (least[place + step] + 1 == least[place]) {
                    found |= fits.at(word, place, step);
                }
            }
            return found;
        }

        private static int lowestOf(int presses) {
            for (int code = 0; code < PRESS_CODES; code++) {
                if ((presses >> code & 1) != 0) {
                    return code;
                }
            }
            return NONE;
        }

        private int codeAt(int index) {
            return index >= 0 && index < presses && index < WORD_LETTERS ? codes[index] : NONE;
        }

        private boolean isPossible(Inks inks, int limit) {
            if (presses == NONE) {
                return false;
            }
            for (int stamp = 0; stamp < MOST_STAMPS; stamp++) {
                // A stamp outside the plan may be above a limit that was lowered.
                if (uses[stamp] > 0 && inks.wearOf(stamp) + uses[stamp] > limit) {
                    return false;
                }
            }
            return true;
        }

        private void carryOut(Inks inks, int color, int load) {
            for (int i = 0; i < presses && i < WORD_LETTERS; i++) {
                inks.pressOnce(codes[i] >> 1, color, load);
            }
        }
    }

    /** Tries the orders of the words in ascending sequence; one with as many cleanings is not better. */
    private static final class OrderSearch {
        private final Inks[] inksAt = new Inks[MOST_WORDS + 1];
        private final Plan[] plans = new Plan[MOST_WORDS];
        // The usable presses for which a plan was found: most steps wear no stamp out, and then it is found already.
        private final int[] plannedFor = new int[MOST_WORDS];
        private final int[] sequence = new int[MOST_WORDS];
        private final int[] bestSequence = new int[MOST_WORDS];
        private int taken;
        // NONE until an order is found.
        private int bestCleanings;

        private OrderSearch() {
            for (int depth = 0; depth <= MOST_WORDS; depth++) {
                inksAt[depth] = new Inks();
            }
            for (int word = 0; word < MOST_WORDS; word++) {
                plans[word] = new Plan();
            }
        }

        /** The cleanings of the best order; NONE if there is no order. */
        private int search(Sheet sheet, Fits fits) {
            Arrays.fill(plannedFor, NONE);
            taken = 0;
            bestCleanings = NONE;
            if (inksAt[0] != null) {
                inksAt[0].copyFrom(sheet.inks);
                tryFrom(this, sheet, fits, 0);
            }
            return bestCleanings == NONE ? NONE : bestCleanings - sheet.inks.cleanings;
        }

        private int wordAt(int index) {
            return index >= 0 && index < MOST_WORDS ? bestSequence[index] : NONE;
        }

        private static void tryFrom(OrderSearch search, Sheet sheet, Fits fits, int depth) {
            int words = sheet.words.count;
            if (depth >= words || depth >= MOST_WORDS) {
                search.keep(depth);
                return;
            }
            for (int word = 0; word < words && word < MOST_WORDS; word++) {
                if (search.advance(sheet, fits, depth, word)) {
                    tryFrom(search, sheet, fits, depth + 1);
                    search.taken &= ~(1 << word);
                }
            }
        }

        /** Writes a word as the next one; false if it can't be, or if the order can't become a better one. */
        private boolean advance(Sheet sheet, Fits fits, int depth, int word) {
            if (depth < 0 || depth >= MOST_WORDS || word < 0 || word >= MOST_WORDS || (taken >> word & 1) != 0) {
                return false;
            }
            Inks before = inksAt[depth];
            Inks after = inksAt[depth + 1];
            Plan plan = plans[word];
            if (before == null || after == null || plan == null) {
                return false;
            }
            int usable = sheet.pressesLeft(before);
            if (plannedFor[word] != usable) {
                plan.find(sheet, fits, word, usable);
                plannedFor[word] = usable;
            }
            if (!plan.isPossible(before, sheet.limit)) {
                return false;
            }
            after.copyFrom(before);
            plan.carryOut(after, sheet.colorOf(word), sheet.load);
            if (bestCleanings != NONE && after.cleanings >= bestCleanings) {
                return false;
            }
            sequence[depth] = word;
            taken |= 1 << word;
            return true;
        }

        private void keep(int depth) {
            if (depth >= 0 && depth <= MOST_WORDS && inksAt[depth] != null) {
                bestCleanings = inksAt[depth].cleanings;
                System.arraycopy(sequence, 0, bestSequence, 0, MOST_WORDS);
            }
        }
    }

    /** Tries each part of a word as one more stamp. */
    private static final class CutSearch {
        private final Sheet trial = new Sheet();
        private final Fits fits = new Fits();
        private final Plan plan = new Plan();
        private int bestWord;
        private int bestFrom;
        private int bestLength;
        private int bestSaving;

        private void search(Sheet sheet, int longest) {
            bestWord = NONE;
            bestFrom = NONE;
            bestLength = NONE;
            bestSaving = NONE;
            if (sheet.stamps.isFull()) {
                return;
            }
            trial.copyFrom(sheet);
            fits.rebuild(trial);
            int before = allPresses();
            for (int word = 0; word < trial.words.count; word++) {
                int letters = trial.words.lengthOf(word);
                for (int from = 0; from < letters; from++) {
                    for (int length = 1; length <= longest && length <= letters - from; length++) {
                        keepIfBetter(word, from, length, before - pressesWith(word, from, length));
                    }
                }
            }
        }

        private int pressesWith(int word, int from, int length) {
            int stamp = trial.stamps.count;
            trial.addPart(word, from, length);
            fits.add(trial, stamp);
            int presses = allPresses();
            trial.takeOutStamp(stamp);
            fits.erase(stamp);
            return presses;
        }

        private int allPresses() {
            int usable = trial.pressesLeft(trial.inks);
            int sum = 0;
            for (int word = 0; word < trial.words.count; word++) {
                int presses = plan.measure(fits, word, trial.words.lengthOf(word), usable);
                sum += presses == NONE ? WITHOUT_PLAN : presses;
            }
            return sum;
        }

        private void keepIfBetter(int word, int from, int length, int saving) {
            if (saving > bestSaving) {
                bestWord = word;
                bestFrom = from;
                bestLength = length;
                bestSaving = saving;
            }
        }
    }
}
