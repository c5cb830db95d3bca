import java.util.ArrayDeque;
import java.util.ArrayList;
import java.util.HashSet;
import java.util.List;
import java.util.Set;

/**
 * Runs long sequences of calls on the class and on a model that is written as plainly as the document reads
 * (strings, searches over all possibilities), and compares every answer and every exception.
 */
public final class ModelTest {
    private static final int RUNS = 400;
    private static final int CALLS = 220;

    private static int wrong = 0;
    private static long seed = 20261119L;

    public static void main(String[] args) {
        for (int run = 0; run < RUNS && wrong < 20; run++) {
            oneRun(run);
        }
        System.out.println(wrong == 0 ? "the class and the model agree" : wrong + " answers differ from the model");
        if (wrong != 0) {
            System.exit(1);
        }
    }

    // ---- the model

    static final class Stamp {
        final String letters;
        int ink = -1;
        int amount = 0;
        int wear = 0;

        Stamp(String letters) {
            this.letters = letters;
        }

        Stamp copy() {
            Stamp other = new Stamp(letters);
            other.ink = ink;
            other.amount = amount;
            other.wear = wear;
            return other;
        }
    }

    static final class Word {
        final String letters;
        int color;

        Word(String letters, int color) {
            this.letters = letters;
            this.color = color;
        }
    }

    static final class State {
        List<Stamp> stamps = new ArrayList<>();
        List<Word> words = new ArrayList<>();
        int limit = 100;
        int load = 5;
        int presses = 0;
        int inkings = 0;
        int cleanings = 0;

        State copy() {
            State other = new State();
            for (Stamp s : stamps) {
                other.stamps.add(s.copy());
            }
            for (Word w : words) {
                other.words.add(new Word(w.letters, w.color));
            }
            other.limit = limit;
            other.load = load;
            other.presses = presses;
            other.inkings = inkings;
            other.cleanings = cleanings;
            return other;
        }

        boolean wornOut(int stamp) {
            return stamps.get(stamp).wear >= limit;
        }

        int freshSet() {
            int set = 0;
            for (int s = 0; s < stamps.size(); s++) {
                if (!wornOut(s)) {
                    set |= 1 << s;
                }
            }
            return set;
        }
    }

    static String turned(String letters) {
        String from = "bdlmnopqsuwxz";
        String to = "qplwuodbsnmxz";
        StringBuilder print = new StringBuilder();
        for (char c : letters.toCharArray()) {
            int at = from.indexOf(c);
            if (at < 0) {
                return null;
            }
            print.insert(0, to.charAt(at));
        }
        return print.toString();
    }

    static String print(State state, int code) {
        String letters = state.stamps.get(code / 2).letters;
        return code % 2 == 0 ? letters : turned(letters);
    }

    /** The best plan with the stamps of a set: for 1 press, 2 presses and so on, the first one in order; or null. */
    static List<Integer> plan(State state, String word, int set) {
        for (int presses = 1; presses <= word.length(); presses++) {
            List<Integer> found = planOf(state, word, set, presses, new HashSet<>());
            if (found != null) {
                return found;
            }
        }
        return null;
    }

    static List<Integer> planOf(State state, String rest, int set, int presses, Set<Integer> failed) {
        if (presses == 0) {
            return rest.isEmpty() ? new ArrayList<>() : null;
        }
        if (failed.contains(rest.length() * 16 + presses)) {
            return null;
        }
        for (int code = 0; code < 2 * state.stamps.size(); code++) {
            String print = (set >> code / 2 & 1) == 0 ? null : print(state, code);
            if (print != null && rest.startsWith(print)) {
                List<Integer> more = planOf(state, rest.substring(print.length()), set, presses - 1, failed);
                if (more != null) {
                    more.add(0, code);
                    return more;
                }
            }
        }
        failed.add(rest.length() * 16 + presses);
        return null;
    }

    static List<Integer> plan(State state, int word) {
        return plan(state, state.words.get(word).letters, state.freshSet());
    }

    /** Carries the best plan out; the number of presses, or -1 (and nothing is changed) if it is not possible. */
    static int write(State state, int word) {
        List<Integer> plan = plan(state, word);
        if (plan == null) {
            return -1;
        }
        for (int s = 0; s < state.stamps.size(); s++) {
            int uses = 0;
            for (int code : plan) {
                uses += code / 2 == s ? 1 : 0;
            }
            if (uses > 0 && state.stamps.get(s).wear + uses > state.limit) {
                return -1;
            }
        }
        int color = state.words.get(word).color;
        for (int code : plan) {
            Stamp s = state.stamps.get(code / 2);
            if (s.ink != color) {
                state.cleanings += s.ink == -1 ? 0 : 1;
                state.inkings++;
                s.ink = color;
                s.amount = state.load;
            } else if (s.amount == 0) {
                state.inkings++;
                s.amount = state.load;
            }
            s.amount--;
            s.wear++;
            state.presses++;
        }
        return plan.size();
    }

    static boolean allPlans(State state, int set) {
        for (Word w : state.words) {
            if (plan(state, w.letters, set) == null) {
                return false;
            }
        }
        return true;
    }

    static int fewest(State state) {
        int fresh = state.freshSet();
        if (!allPlans(state, fresh)) {
            return -1;
        }
        for (int size = 0; size <= 10; size++) {
            for (int set = 0; set < 1024; set++) {
                if ((set & ~fresh) == 0 && Integer.bitCount(set) == size && allPlans(state, set)) {
                    return set;
                }
            }
        }
        return -1;
    }

    static int needed(State state, int stamp) {
        int count = 0;
        for (Word w : state.words) {
            int fresh = state.freshSet();
            if (plan(state, w.letters, fresh) != null && plan(state, w.letters, fresh & ~(1 << stamp)) == null) {
                count++;
            }
        }
        return count;
    }

    static final class Orders {
        List<Integer> best = null;
        int bestCleanings = 0;

        void tryAll(State state, List<Integer> sofar, int before) {
            if (sofar.size() == state.words.size()) {
                int cleanings = state.cleanings - before;
                if (best == null || cleanings < bestCleanings) {
                    best = new ArrayList<>(sofar);
                    bestCleanings = cleanings;
                }
                return;
            }
            for (int word = 0; word < state.words.size(); word++) {
                if (!sofar.contains(word)) {
                    State next = state.copy();
                    if (write(next, word) >= 0) {
                        sofar.add(word);
                        tryAll(next, sofar, before);
                        sofar.remove(sofar.size() - 1);
                    }
                }
            }
        }
    }

    static Orders orders(State state) {
        Orders orders = new Orders();
        orders.tryAll(state.copy(), new ArrayList<>(), state.cleanings);
        return orders;
    }

    static int sum(State state) {
        int sum = 0;
        for (int word = 0; word < state.words.size(); word++) {
            List<Integer> plan = plan(state, word);
            sum += plan == null ? 100 : plan.size();
        }
        return sum;
    }

    static int[] bestCut(State state, int longest) {
        int[] best = {-1, -1, -1, -1};
        if (state.stamps.size() == 10) {
            return best;
        }
        int before = sum(state);
        for (int word = 0; word < state.words.size(); word++) {
            String letters = state.words.get(word).letters;
            for (int from = 0; from < letters.length(); from++) {
                for (int length = 1; length <= longest && from + length <= letters.length(); length++) {
                    State more = state.copy();
                    more.stamps.add(new Stamp(letters.substring(from, from + length)));
                    int saved = before - sum(more);
                    if (saved > best[3]) {
                        best = new int[] {word, from, length, saved};
                    }
                }
            }
        }
        return best;
    }

    /** Whether a text can be the beginning of a set text. */
    static boolean canBegin(String text) {
        int stamps = 0;
        int words = 0;
        String rest = text;
        while (true) {
            int end = rest.indexOf(';');
            String item = end < 0 ? rest : rest.substring(0, end);
            stamps += item.startsWith("*") ? 1 : 0;
            words += !item.isEmpty() && !item.startsWith("*") ? 1 : 0;
            if (stamps > 10 || words > 7) {
                return false;
            }
            if (end < 0) {
                return item.matches("|\\*[a-z]{0,5}|[0-3][a-z]{0,12}");
            }
            if (!item.matches("\\*[a-z]{1,5}|[0-3][a-z]{1,12}")) {
                return false;
            }
            rest = rest.substring(end + 1);
        }
    }

    static int errorPosition(String text) {
        for (int i = 0; i < text.length(); i++) {
            if (!canBegin(text.substring(0, i + 1))) {
                return i;
            }
        }
        return text.isEmpty() || text.endsWith(";") ? -1 : text.length();
    }

    static final class Model {
        State now = new State();
        StringBuilder text = new StringBuilder();
        ArrayDeque<State> saved = new ArrayDeque<>();

        void save() {
            saved.addLast(now.copy());
            if (saved.size() > 4) {
                saved.removeFirst();
            }
        }

        void needStamp(int stamp) {
            if (stamp < 0 || stamp >= now.stamps.size()) {
                throw new IndexOutOfBoundsException();
            }
        }

        void needWord(int word) {
            if (word < 0 || word >= now.words.size()) {
                throw new IndexOutOfBoundsException();
            }
        }

        void need(boolean good) {
            if (!good) {
                throw new IllegalArgumentException();
            }
        }

        int append(int value) {
            need(value >= 0 && value <= 127);
            if (text.length() == 150) {
                throw new IllegalStateException();
            }
            text.append((char) value);
            return text.length();
        }

        int clearText() {
            int length = text.length();
            text.setLength(0);
            return length;
        }

        int parse() {
            int error = errorPosition(text.toString());
            if (error >= 0) {
                return -10 - error;
            }
            save();
            State next = new State();
            next.limit = now.limit;
            next.load = now.load;
            for (String item : text.toString().split(";")) {
                if (item.startsWith("*")) {
                    next.stamps.add(new Stamp(item.substring(1)));
                } else if (!item.isEmpty()) {
                    next.words.add(new Word(item.substring(1), item.charAt(0) - '0'));
                }
            }
            now = next;
            return now.stamps.size() + now.words.size();
        }

        int cut(int word, int from, int length) {
            needWord(word);
            String letters = now.words.get(word).letters;
            need(from >= 0 && from < letters.length());
            need(length >= 1 && length <= 5 && (long) from + length <= letters.length());
            if (now.stamps.size() == 10) {
                throw new IllegalStateException();
            }
            save();
            now.stamps.add(new Stamp(letters.substring(from, from + length)));
            return now.stamps.size() - 1;
        }

        int remove(int stamp) {
            needStamp(stamp);
            save();
            now.stamps.remove(stamp);
            return now.stamps.size();
        }

        int drop(int word) {
            needWord(word);
            save();
            now.words.remove(word);
            return now.words.size();
        }

        int setColor(int word, int color) {
            needWord(word);
            need(color >= 0 && color <= 3);
            save();
            int previous = now.words.get(word).color;
            now.words.get(word).color = color;
            return previous;
        }

        int setLimits(int limit, int load) {
            need(limit >= 1 && limit <= 200 && load >= 1 && load <= 20);
            save();
            int previous = now.limit;
            now.limit = limit;
            now.load = load;
            return previous;
        }

        int clean(int stamp) {
            needStamp(stamp);
            save();
            Stamp s = now.stamps.get(stamp);
            int had = s.ink == -1 ? 0 : 1;
            s.ink = -1;
            s.amount = 0;
            now.cleanings += had;
            return had;
        }

        int value(int what) {
            need(what >= 0 && what <= 8);
            int worn = 0;
            for (int s = 0; s < now.stamps.size(); s++) {
                worn += now.wornOut(s) ? 1 : 0;
            }
            int planned = 0;
            for (int w = 0; w < now.words.size(); w++) {
                planned += plan(now, w) == null ? 0 : 1;
            }
            int[] all = {now.stamps.size(), now.words.size(), now.limit, now.load,
                now.presses, now.inkings, now.cleanings, worn, planned};
            return all[what];
        }

        int stamp(int stamp, int what) {
            needStamp(stamp);
            need(what >= 0 && what <= 5);
            Stamp s = now.stamps.get(stamp);
            int[] all = {s.letters.length(), s.ink, s.amount, s.wear,
                turned(s.letters) == null ? 0 : 1, now.wornOut(stamp) ? 1 : 0};
            return all[what];
        }

        int print(int stamp, int index, boolean turned) {
            needStamp(stamp);
            String letters = now.stamps.get(stamp).letters;
            if (index < 0 || index >= letters.length()) {
                throw new IndexOutOfBoundsException();
            }
            String print = turned ? turned(letters) : letters;
            return print == null ? -1 : print.charAt(index) - 'a';
        }

        int word(int word, int what) {
            needWord(word);
            need(what >= 0 && what <= 5);
            Word w = now.words.get(word);
            List<Integer> plan = ModelTest.plan(now, word);
            State next = now.copy();
            boolean possible = ModelTest.write(next, word) >= 0;
            int[] all = {w.letters.length(), w.color, plan == null ? -1 : plan.size(), possible ? 1 : 0,
                possible ? next.inkings - now.inkings : -1, possible ? next.cleanings - now.cleanings : -1};
            return all[what];
        }

        int letter(int word, int index) {
            needWord(word);
            String letters = now.words.get(word).letters;
            if (index < 0 || index >= letters.length()) {
                throw new IndexOutOfBoundsException();
            }
            return letters.charAt(index) - 'a';
        }

        int press(int word, int index) {
            needWord(word);
            List<Integer> plan = ModelTest.plan(now, word);
            if (plan == null || index < 0 || index >= plan.size()) {
                throw new IndexOutOfBoundsException();
            }
            return plan.get(index);
        }

        int write(int word) {
            needWord(word);
            State next = now.copy();
            int presses = ModelTest.write(next, word);
            if (presses < 0) {
                throw new IllegalStateException();
            }
            save();
            now = next;
            return presses;
        }

        int writeAll() {
            save();
            int written = 0;
            for (int word = 0; word < now.words.size(); word++) {
                written += ModelTest.write(now, word) >= 0 ? 1 : 0;
            }
            return written;
        }

        int needed(int stamp) {
            needStamp(stamp);
            return ModelTest.needed(now, stamp);
        }

        int order(int index) {
            if (index < 0 || index >= now.words.size()) {
                throw new IndexOutOfBoundsException();
            }
            Orders orders = orders(now);
            if (orders.best == null) {
                throw new IllegalStateException();
            }
            return orders.best.get(index);
        }

        int leastCleanings() {
            Orders orders = orders(now);
            return orders.best == null ? -1 : orders.bestCleanings;
        }

        int bestCut(int what, int length) {
            need(what >= 0 && what <= 3 && length >= 1 && length <= 5);
            return ModelTest.bestCut(now, length)[what];
        }

        double lettersPerPress() {
            int letters = 0;
            int presses = 0;
            for (int word = 0; word < now.words.size(); word++) {
                List<Integer> plan = ModelTest.plan(now, word);
                letters += plan == null ? 0 : now.words.get(word).letters.length();
                presses += plan == null ? 0 : plan.size();
            }
            return presses == 0 ? 0.0 : (double) letters / (double) presses;
        }

        int undo() {
            if (saved.isEmpty()) {
                throw new IllegalStateException();
            }
            now = saved.removeLast();
            return saved.size();
        }

        long digest() {
            List<Long> all = new ArrayList<>();
            all.add((long) text.length());
            for (int what = 0; what <= 8; what++) {
                all.add((long) value(what));
            }
            for (int s = 0; s < now.stamps.size(); s++) {
                for (int what = 0; what <= 5; what++) {
                    all.add((long) stamp(s, what));
                }
                for (char c : now.stamps.get(s).letters.toCharArray()) {
                    all.add((long) (c - 'a'));
                }
            }
            for (int w = 0; w < now.words.size(); w++) {
                for (int what = 0; what <= 5; what++) {
                    all.add((long) word(w, what));
                }
                for (char c : now.words.get(w).letters.toCharArray()) {
                    all.add((long) (c - 'a'));
                }
                List<Integer> plan = ModelTest.plan(now, w);
                for (int i = 0; plan != null && i < plan.size(); i++) {
                    all.add((long) plan.get(i));
                }
            }
            all.add((long) ModelTest.fewest(now));
            all.add((long) saved.size());
            long hash = 3389;
            for (long v : all) {
                hash = 31 * hash + v;
            }
            return hash;
        }
    }

    // ---- the runs

    static int pick(int bound) {
        seed = seed * 6364136223846793005L + 1442695040888963407L;
        return (int) ((seed >>> 33) % bound);
    }

    interface Call {
        long run();
    }

    /** The answer as a text, or the exact class that was thrown. */
    static String told(Call call) {
        try {
            return Long.toString(call.run());
        } catch (RuntimeException e) {
            return "throws " + e.getClass().getName();
        }
    }

    static void compare(int run, String call, Call got, Call want) {
        String answer = told(got);
        String due = told(want);
        if (!answer.equals(due)) {
            wrong++;
            System.out.println("run " + run + ": " + call + " answered " + answer + ", due is " + due);
        }
    }

    static String letters(int most, String from) {
        StringBuilder made = new StringBuilder();
        int length = 1 + pick(most);
        for (int i = 0; i < length; i++) {
            made.append(from.charAt(pick(from.length())));
        }
        return made.toString();
    }

    /** A word that can often be written: prints of the stamps in a row. */
    static String wordOf(List<String> stamps, String alphabet) {
        StringBuilder made = new StringBuilder();
        for (int tries = 0; tries < 8 && !stamps.isEmpty(); tries++) {
            String s = stamps.get(pick(stamps.size()));
            String t = turned(s);
            String p = pick(2) == 0 && t != null ? t : s;
            if (made.length() + p.length() <= 12) {
                made.append(p);
            }
            if (pick(4) == 0) {
                break;
            }
        }
        return made.length() == 0 || pick(12) == 0 ? letters(12, alphabet) : made.toString();
    }

    static String setText() {
        String[] alphabets = {"ao", "nu", "bdpq", "abdo", "oxs", "mnuwo", "abcdefghijklmnopqrstuvwxyz", "bdlmnopqsuwxz"};
        String alphabet = alphabets[pick(alphabets.length)];
        List<String> stamps = new ArrayList<>();
        List<String> items = new ArrayList<>();
        int stampCount = pick(4) == 0 ? 10 : pick(11);
        int most = 1 + pick(5);
        for (int i = 0; i < stampCount; i++) {
            String s = letters(most, alphabet);
            stamps.add(s);
            items.add("*" + s + ";");
        }
        int wordCount = pick(3) == 0 ? 7 : pick(8);
        int colors = 1 + pick(4);
        for (int i = 0; i < wordCount; i++) {
            items.add(items.isEmpty() ? 0 : pick(items.size() + 1), pick(colors) + wordOf(stamps, alphabet) + ";");
        }
        StringBuilder text = new StringBuilder();
        for (String item : items) {
            if (text.length() + item.length() <= 150) {
                text.append(item);
            }
        }
        return text.toString();
    }

    static String spoiled(String text) {
        StringBuilder made = new StringBuilder(text);
        String signs = ";*01234ab{` z/~";
        int changes = 1 + pick(2);
        for (int i = 0; i < changes; i++) {
            int at = pick(made.length() + 1);
            int kind = pick(4);
            if (kind == 0 && at < made.length()) {
                made.deleteCharAt(at);
            } else if (kind == 1 && at < made.length()) {
                made.setLength(at);
            } else if (made.length() < 150) {
                made.insert(at, signs.charAt(pick(signs.length())));
            }
        }
        return made.toString();
    }

    static void load(int run, RubberStamps x, Model m, String text) {
        compare(run, "clearText()", () -> x.clearText(), () -> m.clearText());
        for (char c : text.toCharArray()) {
            compare(run, "append(" + (int) c + ")", () -> x.append(c), () -> m.append(c));
        }
        compare(run, "parse() of " + text, () -> x.parse(), () -> m.parse());
    }

    static void oneRun(int run) {
        RubberStamps x = new RubberStamps();
        Model m = new Model();
        String text = setText();
        load(run, x, m, text);
        int left = CALLS;
        if (run % 3 != 0) {
            int limit = 1 + pick(16);
            int load = 1 + pick(5);
            compare(run, "setLimits(" + limit + ", " + load + ")", () -> x.setLimits(limit, load), () -> m.setLimits(limit, load));
        }
        for (int i = 0; i < left; i++) {
            if (pick(60) == 0) {
                String next = pick(3) == 0 ? setText() : spoiled(text);
                left -= next.length();
                if (left > i) {
                    load(run, x, m, next);
                }
            } else {
                change(run, x, m);
                ask(run, x, m);
            }
            if (pick(6) == 0) {
                compare(run, "digest()", () -> x.digest(), () -> m.digest());
            }
        }
        compare(run, "digest() at the end", () -> x.digest(), () -> m.digest());
    }

    static int number(int bound) {
        int kind = pick(60);
        if (kind == 0) {
            return -1;
        }
        if (kind == 1) {
            return Integer.MAX_VALUE;
        }
        if (kind == 2) {
            return Integer.MIN_VALUE;
        }
        return pick(bound + (pick(20) == 0 ? 2 : 0));
    }

    static void change(int run, RubberStamps x, Model m) {
        int a = number(Math.max(1, m.now.words.size()));
        int b = number(12);
        int c = number(6);
        int s = number(Math.max(1, m.now.stamps.size()));
        switch (pick(14)) {
            case 0: compare(run, "cut(" + a + ", " + b + ", " + c + ")", () -> x.cut(a, b, c), () -> m.cut(a, b, c)); break;
            case 1: if (pick(3) == 0) compare(run, "remove(" + s + ")", () -> x.remove(s), () -> m.remove(s)); break;
            case 2: if (pick(4) == 0) compare(run, "drop(" + a + ")", () -> x.drop(a), () -> m.drop(a)); break;
            case 3: compare(run, "setColor(" + a + ", " + c + ")", () -> x.setColor(a, c), () -> m.setColor(a, c)); break;
            case 4:
                if (pick(3) == 0) {
                    int limit = pick(3) == 0 ? number(202) : number(30);
                    int load = number(8);
                    compare(run, "setLimits(" + limit + ", " + load + ")", () -> x.setLimits(limit, load), () -> m.setLimits(limit, load));
                }
                break;
            case 5: compare(run, "clean(" + s + ")", () -> x.clean(s), () -> m.clean(s)); break;
            case 6: case 7: compare(run, "writeAll()", () -> x.writeAll(), () -> m.writeAll()); break;
            case 8: compare(run, "undo()", () -> x.undo(), () -> m.undo()); break;
            case 9:
                if (pick(4) == 0) {
                    int times = 1 + pick(5);
                    for (int i = 0; i < times; i++) {
                        compare(run, "undo()", () -> x.undo(), () -> m.undo());
                    }
                }
                break;
            default: compare(run, "write(" + a + ")", () -> x.write(a), () -> m.write(a)); break;
        }
    }

    static void ask(int run, RubberStamps x, Model m) {
        int word = number(Math.max(1, m.now.words.size()));
        int stamp = number(Math.max(1, m.now.stamps.size()));
        int what = number(7);
        int index = number(6);
        boolean turned = pick(2) == 0;
        switch (pick(40)) {
            case 0: case 1: case 2: compare(run, "stamp(" + stamp + ", " + what + ")", () -> x.stamp(stamp, what), () -> m.stamp(stamp, what)); break;
            case 3: case 4: case 5: compare(run, "print(" + stamp + ", " + index + ", " + turned + ")", () -> x.print(stamp, index, turned), () -> m.print(stamp, index, turned)); break;
            case 6: case 7: case 8: case 9: case 10: compare(run, "word(" + word + ", " + what + ")", () -> x.word(word, what), () -> m.word(word, what)); break;
            case 11: compare(run, "letter(" + word + ", " + index + ")", () -> x.letter(word, index), () -> m.letter(word, index)); break;
            case 12: case 13: case 14: compare(run, "press(" + word + ", " + index + ")", () -> x.press(word, index), () -> m.press(word, index)); break;
            case 15: case 16: compare(run, "fewest()", () -> x.fewest(), () -> fewest(m.now)); break;
            case 17: case 18: case 19: compare(run, "needed(" + stamp + ")", () -> x.needed(stamp), () -> m.needed(stamp)); break;
            case 20: if (pick(3) == 0) compare(run, "order(" + word + ")", () -> x.order(word), () -> m.order(word)); break;
            case 21: if (pick(6) == 0) wholeOrder(run, x, m); break;
            case 22: case 23: compare(run, "bestCut(" + what + ", " + index + ")", () -> x.bestCut(what, index), () -> m.bestCut(what, index)); break;
            case 24: compare(run, "lettersPerPress()", () -> Double.doubleToLongBits(x.lettersPerPress()), () -> Double.doubleToLongBits(m.lettersPerPress())); break;
            case 25: case 26: {
                int v = number(10);
                compare(run, "value(" + v + ")", () -> x.value(v), () -> m.value(v));
                break;
            }
            default: break;
        }
    }

    static void wholeOrder(int run, RubberStamps x, Model m) {
        Orders due = orders(m.now);
        compare(run, "leastCleanings()", () -> x.leastCleanings(), () -> due.best == null ? -1 : due.bestCleanings);
        for (int i = 0; due.best != null && i < due.best.size(); i++) {
            int index = i;
            compare(run, "order(" + i + ")", () -> x.order(index), () -> due.best.get(index));
        }
    }
}
