/** What the tests have in common: how they make a set, and how they tell an answer that is not the one that is due. */
abstract class Checks {
    static final int NONE = RubberStamps.NONE;
    static final int MAX = Integer.MAX_VALUE;
    static final int MIN = Integer.MIN_VALUE;

    static final Class<?> INDEX = IndexOutOfBoundsException.class;
    static final Class<?> ARGUMENT = IllegalArgumentException.class;
    static final Class<?> STATE = IllegalStateException.class;

    /** As many stamps, and as many words, as there may be. */
    static final String TEN = "*a;*b;*c;*d;*e;*f;*g;*h;*i;*j;";
    static final String SEVEN = "0a;1b;2c;3d;0e;1f;2g;";

    static int wrong = 0;
    private static int tests = 0;
    private static String sentence = "";
    private static String name = "";

    interface Call {
        long run();
    }

    interface Maker {
        RubberStamps make();
    }

    interface CallOn {
        long on(RubberStamps x);
    }

    // ---- tests and their answers

    /** The sentence of the document that the tests behind this call are about. */
    static void says(String what) {
        sentence = what;
        name = "";
    }

    static void test(String what, Runnable body) {
        name = what;
        tests++;
        try {
            body.run();
        } catch (RuntimeException e) {
            tell("threw " + e);
        }
    }

    /** Ends the program as .ci/run expects it. */
    static void end(String what) {
        if (wrong != 0) {
            System.out.println(what + ": " + wrong + " answers are not as due");
            System.exit(1);
        }
        System.out.println(what + ": all as due" + (tests > 0 ? " in " + tests + " tests" : ""));
    }

    static void tell(String what) {
        wrong++;
        System.out.println(sentence + (name.isEmpty() ? "" : " / " + name) + ": " + what);
    }

    static void due(String what, long got, long want) {
        if (got != want) {
            tell(what + " answered " + got + ", due is " + want);
        }
    }

    static void dueText(String what, String got, String want) {
        if (!got.equals(want)) {
            tell(what + " answered " + got + ", due is " + want);
        }
    }

    /** Compared as bits, so that 0.0 is not -0.0. */
    static void dueDouble(String what, double got, double want) {
        if (Double.doubleToLongBits(got) != Double.doubleToLongBits(want)) {
            tell(what + " answered " + got + ", due is " + want);
        }
    }

    private static void dueClass(String what, Class<?> got, Class<?> want) {
        if (got != want) {
            tell(what + " threw " + (got == null ? "nothing" : got.getName()) + ", due is " + want.getName());
        }
    }

    private static Class<?> thrownBy(Call call) {
        try {
            call.run();
        } catch (RuntimeException e) {
            return e.getClass();
        }
        return null;
    }

    /** The call throws exactly this class, and the digest is the same behind it. */
    static void dueThrow(String what, Class<?> want, RubberStamps x, Call call) {
        long before = x.digest();
        dueClass(what, thrownBy(call), want);
        due("digest after " + what, x.digest(), before);
    }

    /** The call throws exactly this class, and changes nothing, the saved states and the text included. */
    static void refused(String what, Class<?> want, Maker maker, CallOn call) {
        RubberStamps x = maker.make();
        dueClass(what, thrownBy(() -> call.on(x)), want);
        dueSame("after " + what, x, maker.make());
    }

    /** The call answers, and changes nothing, the saved states and the text included. */
    static void asked(String what, Maker maker, CallOn call, long want) {
        RubberStamps x = maker.make();
        due(what, call.on(x), want);
        dueSame("after " + what, x, maker.make());
    }

    /** The call answers, and saves one state, from which undo brings back all that was. Room for it must be left. */
    static void undoable(String what, Maker maker, CallOn call, long want) {
        RubberStamps x = maker.make();
        RubberStamps before = maker.make();
        int saved = savedStates(maker.make());
        due(what, call.on(x), want);
        due("undo() after " + what, x.undo(), saved);
        dueSame("after " + what + " and undo()", x, before);
    }

    /** Both objects are in the same state, have saved the same states and have the same text; both are used up. */
    static void dueSame(String what, RubberStamps x, RubberStamps y) {
        due("digest " + what, x.digest(), y.digest());
        for (int i = 1; i <= 5; i++) {
            dueText("undo() number " + i + " " + what, undone(x), undone(y));
            due("digest at undo() number " + i + " " + what, x.digest(), y.digest());
        }
        due("parse() " + what, x.parse(), y.parse());
        due("digest at parse() " + what, x.digest(), y.digest());
    }

    private static String undone(RubberStamps x) {
        try {
            return Integer.toString(x.undo());
        } catch (IllegalStateException e) {
            return "nothing saved";
        }
    }

    /** Counts the saved states by taking them all. */
    static int savedStates(RubberStamps x) {
        int count = 0;
        while (count < 9 && !undone(x).equals("nothing saved")) {
            count++;
        }
        return count;
    }

    // ---- sets

    static RubberStamps type(RubberStamps x, String text) {
        x.clearText();
        for (int i = 0; i < text.length(); i++) {
            x.append(text.charAt(i));
        }
        return x;
    }

    static RubberStamps of(String text) {
        RubberStamps x = type(new RubberStamps(), text);
        int items = 0;
        for (int i = 0; i < text.length(); i++) {
            items += text.charAt(i) == ';' ? 1 : 0;
        }
        due("parse of " + text, x.parse(), items);
        return x;
    }

    /** A set of this text with this limit and load. */
    static RubberStamps of(String text, int limit, int load) {
        RubberStamps x = of(text);
        x.setLimits(limit, load);
        return x;
    }

    static int parsed(String text) {
        return type(new RubberStamps(), text).parse();
    }

    /** A set in which inks, amounts, wear, counts and saved states are all there, and another text is typed. */
    static RubberStamps rich() {
        RubberStamps x = of("*no;*u;*xyz;0noun;2cat;1nun;", 9, 2);
        x.write(0);
        x.write(2);
        return type(x, "*b;3bb;");
    }

    /** The same with one saved state less, so that one more is kept beside them. */
    static RubberStamps richWithRoom() {
        RubberStamps x = rich();
        x.undo();
        return x;
    }

    /** 10 stamps of 5 letters and 7 words of 12. */
    static RubberStamps full() {
        StringBuilder text = new StringBuilder();
        for (int i = 0; i < 7; i++) {
            text.append("*nonon;").append(i % 4).append("abcdefghijkl;");
        }
        RubberStamps x = of(text.toString());
        x.cut(0, 0, 5);
        x.cut(3, 4, 5);
        x.cut(6, 7, 5);
        return x;
    }

    static String repeated(String part, int times) {
        StringBuilder made = new StringBuilder();
        for (int i = 0; i < times; i++) {
            made.append(part);
        }
        return made.toString();
    }

    static void write(RubberStamps x, int word, int times) {
        for (int i = 0; i < times; i++) {
            x.write(word);
        }
    }

    // ---- what a set says

    static String stampText(RubberStamps x, int stamp) {
        return printText(x, stamp, false);
    }

    static String printText(RubberStamps x, int stamp, boolean turned) {
        StringBuilder made = new StringBuilder();
        for (int i = 0; i < x.stamp(stamp, 0); i++) {
            made.append((char) ('a' + x.print(stamp, i, turned)));
        }
        return made.toString();
    }

    static String wordText(RubberStamps x, int word) {
        StringBuilder made = new StringBuilder();
        for (int i = 0; i < x.word(word, 0); i++) {
            made.append((char) ('a' + x.letter(word, i)));
        }
        return made.toString();
    }

    /** The presses of a best plan as "stamp" or "stamp'" (turned), behind one another. */
    static String planText(RubberStamps x, int word) {
        StringBuilder made = new StringBuilder();
        for (int i = 0; i < x.word(word, 2); i++) {
            int code = x.press(word, i);
            made.append(code / 2).append(code % 2 == 1 ? "'" : "").append(' ');
        }
        return made.toString().trim();
    }

    static void duePlan(String text, String want) {
        dueText("plan of word 0 in " + text, planText(of(text), 0), want);
    }

    static void dueStamp(RubberStamps x, int stamp, int ink, int amount, int wear) {
        due("ink of stamp " + stamp, x.stamp(stamp, 1), ink);
        due("amount of stamp " + stamp, x.stamp(stamp, 2), amount);
        due("wear of stamp " + stamp, x.stamp(stamp, 3), wear);
    }

    static void dueCounts(RubberStamps x, int presses, int inkings, int cleanings) {
        due("presses", x.value(4), presses);
        due("inkings", x.value(5), inkings);
        due("cleanings", x.value(6), cleanings);
    }

    static void dueOrder(RubberStamps x, int... order) {
        for (int i = 0; i < order.length; i++) {
            due("order(" + i + ")", x.order(i), order[i]);
        }
    }

    static void dueCut(RubberStamps x, int length, int... answers) {
        for (int what = 0; what < 4; what++) {
            due("bestCut(" + what + ", " + length + ")", x.bestCut(what, length), answers[what]);
        }
    }

    static void dueMean(RubberStamps x, double want) {
        dueDouble("lettersPerPress()", x.lettersPerPress(), want);
    }
}
