/** For each promise of the document: ordinary answers, the edges that it names, and wrong inputs. */
public final class PromiseTest extends Checks {
    public static void main(String[] args) {
        newObject();
        append();
        clearText();
        parse();
        parseErrors();
        cut();
        remove();
        drop();
        setColor();
        setLimits();
        clean();
        value();
        stamp();
        print();
        word();
        letter();
        press();
        bestPlans();
        write();
        inking();
        wearing();
        writeAll();
        fewest();
        needed();
        order();
        leastCleanings();
        bestCut();
        lettersPerPress();
        undo();
        digest();
        end("promises");
    }

    // ---- the promises

    private static void newObject() {
        says("Promise 1");
        RubberStamps x = new RubberStamps();
        due("NONE", RubberStamps.NONE, -1);
        int[] values = {0, 0, 100, 5, 0, 0, 0, 0, 0};
        for (int what = 0; what < values.length; what++) {
            due("value(" + what + ")", x.value(what), values[what]);
        }
        due("clearText()", x.clearText(), 0);
        dueThrow("stamp(0, 0)", INDEX, x, () -> x.stamp(0, 0));
        dueThrow("word(0, 0)", INDEX, x, () -> x.word(0, 0));
        dueThrow("undo()", STATE, x, () -> x.undo());
    }

    private static void append() {
        says("Promise 2");
        RubberStamps x = new RubberStamps();
        due("append(0)", x.append(0), 1);
        due("append(127)", x.append(127), 2);
        dueThrow("append(-1)", ARGUMENT, x, () -> x.append(-1));
        dueThrow("append(128)", ARGUMENT, x, () -> x.append(128));
        dueThrow("append(MAX)", ARGUMENT, x, () -> x.append(MAX));
        dueThrow("append(MIN)", ARGUMENT, x, () -> x.append(MIN));
        for (int i = 3; i <= 150; i++) {
            due("append(97)", x.append(97), i);
        }
        dueThrow("append(97) to 150 bytes", STATE, x, () -> x.append(97));
        dueThrow("append(128) to 150 bytes", ARGUMENT, x, () -> x.append(128));
        due("clearText()", x.clearText(), 150);
        due("append(97)", x.append(97), 1);
        dueThrow("undo()", STATE, x, () -> x.undo());
    }

    private static void clearText() {
        says("Promise 3");
        RubberStamps x = of("*ab;0ab;");
        due("clearText()", x.clearText(), 8);
        due("clearText()", x.clearText(), 0);
        due("stamps", x.value(0), 1);
        due("words", x.value(1), 1);
        due("parse of nothing", x.parse(), 0);
        due("stamps", x.value(0), 0);
        due("undo()", x.undo(), 1);
        due("undo()", x.undo(), 0);
    }

    private static void parse() {
        says("Promise 4");
        RubberStamps x = of("2noun;*no;0a;*abcde;3abcdefghijkl;*z;");
        due("stamps", x.value(0), 3);
        due("words", x.value(1), 3);
        dueText("stamp 0", stampText(x, 0), "no");
        dueText("stamp 1", stampText(x, 1), "abcde");
        dueText("stamp 2", stampText(x, 2), "z");
        dueText("word 0", wordText(x, 0), "noun");
        dueText("word 1", wordText(x, 1), "a");
        dueText("word 2", wordText(x, 2), "abcdefghijkl");
        due("color 0", x.word(0, 1), 2);
        due("color 1", x.word(1, 1), 0);
        due("color 2", x.word(2, 1), 3);
        due("clearText()", x.clearText(), 37);

        RubberStamps y = of("*n;0n;1u;");
        y.setLimits(50, 3);
        y.write(0);
        y.write(1);
        dueCounts(y, 2, 2, 1);
        due("parse again", y.parse(), 3);
        dueStamp(y, 0, -1, 0, 0);
        dueCounts(y, 0, 0, 0);
        due("limit stays", y.value(2), 50);
        due("load stays", y.value(3), 3);
        due("the text stays", y.clearText(), 9);
        due("undo()", y.undo(), 3);
        dueStamp(y, 0, 1, 2, 2);
        dueCounts(y, 2, 2, 1);

        type(y, "*x;4");
        long before = y.digest();
        due("parse with an error", y.parse(), -13);
        due("nothing changes", y.digest(), before);
        due("undo() of the second write", y.undo(), 2);
        dueCounts(y, 1, 1, 0);
    }

    private static void parseErrors() {
        says("Promise 4");
        due("nothing", parsed(""), 0);
        due("*", parsed("*"), -11);
        due("*;", parsed("*;"), -11);
        due("*a", parsed("*a"), -12);
        due("*a;*", parsed("*a;*"), -14);
        due("0", parsed("0"), -11);
        due("0;", parsed("0;"), -11);
        due("0a", parsed("0a"), -12);
        due("4a;", parsed("4a;"), -10);
        due("/a;", parsed("/a;"), -10);
        due("a;", parsed("a;"), -10);
        due(";", parsed(";"), -10);
        due("*a;;", parsed("*a;;"), -13);
        due(" *a;", parsed(" *a;"), -10);
        due("*a b;", parsed("*a b;"), -12);
        due("*A;", parsed("*A;"), -11);
        due("*`;", parsed("*`;"), -11);
        due("*{;", parsed("*{;"), -11);
        due("*az;", parsed("*az;"), 1);
        due("*a*b;", parsed("*a*b;"), -12);
        due("0a1b;", parsed("0a1b;"), -12);
        due("*abcde;", parsed("*abcde;"), 1);
        due("*abcdef;", parsed("*abcdef;"), -16);
        due("*abcde", parsed("*abcde"), -16);
        due("3abcdefghijkl;", parsed("3abcdefghijkl;"), 1);
        due("3abcdefghijklm;", parsed("3abcdefghijklm;"), -23);
        due("3abcdefghijkl", parsed("3abcdefghijkl"), -23);
        String ten = "*a;*b;*c;*d;*e;*f;*g;*h;*i;*j;";
        due("10 stamps", parsed(ten), 10);
        due("11 stamps", parsed(ten + "*k;"), -40);
        due("11 stamps, the last without letters", parsed(ten + "*"), -40);
        String seven = "0a;1b;2c;3d;0e;1f;2g;";
        due("7 words", parsed(seven), 7);
        due("8 words", parsed(seven + "3h;"), -31);
        due("7 words and 10 stamps", parsed(seven + ten), 17);
        due("a word behind them", parsed(seven + ten + "0a;"), -61);
    }

    private static void cut() {
        says("Promise 5");
        RubberStamps x = of("*a;1banana;2no;");
        due("cut(0, 1, 5)", x.cut(0, 1, 5), 1);
        dueText("stamp 1", stampText(x, 1), "anana");
        due("cut(0, 5, 1)", x.cut(0, 5, 1), 2);
        dueText("stamp 2", stampText(x, 2), "a");
        due("cut(1, 0, 2)", x.cut(1, 0, 2), 3);
        dueText("stamp 3", stampText(x, 3), "no");
        dueStamp(x, 3, -1, 0, 0);
        due("the word stays", x.value(1), 2);
        due("presses of banana", x.word(0, 2), -1);
        due("cut(0, 0, 3)", x.cut(0, 0, 3), 4);
        dueText("stamp 4", stampText(x, 4), "ban");
        due("undo()", x.undo(), 3);
        due("stamps", x.value(0), 4);
        dueThrow("cut(2, 0, 1)", INDEX, x, () -> x.cut(2, 0, 1));
        dueThrow("cut(-1, 0, 1)", INDEX, x, () -> x.cut(-1, 0, 1));
        dueThrow("cut(MAX, -1, 9)", INDEX, x, () -> x.cut(MAX, -1, 9));
        dueThrow("cut(0, -1, 1)", ARGUMENT, x, () -> x.cut(0, -1, 1));
        dueThrow("cut(0, 6, 1)", ARGUMENT, x, () -> x.cut(0, 6, 1));
        dueThrow("cut(0, 0, 0)", ARGUMENT, x, () -> x.cut(0, 0, 0));
        dueThrow("cut(0, 0, -1)", ARGUMENT, x, () -> x.cut(0, 0, -1));
        dueThrow("cut(0, 0, 6)", ARGUMENT, x, () -> x.cut(0, 0, 6));
        dueThrow("cut(0, 2, 5)", ARGUMENT, x, () -> x.cut(0, 2, 5));
        dueThrow("cut(1, 0, 3)", ARGUMENT, x, () -> x.cut(1, 0, 3));
        dueThrow("cut(0, MAX, 5)", ARGUMENT, x, () -> x.cut(0, MAX, 5));
        dueThrow("cut(0, 1, MAX)", ARGUMENT, x, () -> x.cut(0, 1, MAX));
        dueThrow("cut(0, MIN, MIN)", ARGUMENT, x, () -> x.cut(0, MIN, MIN));
        for (int i = 4; i < 10; i++) {
            due("cut(0, 0, 1)", x.cut(0, 0, 1), i);
        }
        dueThrow("cut with 10 stamps", STATE, x, () -> x.cut(0, 0, 1));
        dueThrow("cut with 10 stamps, bad part", ARGUMENT, x, () -> x.cut(0, 6, 1));
        dueThrow("cut with 10 stamps, no word", INDEX, x, () -> x.cut(7, 6, 1));

        // A stamp that takes the number of a removed one starts without its ink and wear.
        RubberStamps y = of("*n;0n;");
        y.write(0);
        y.remove(0);
        due("cut(0, 0, 1)", y.cut(0, 0, 1), 0);
        dueStamp(y, 0, -1, 0, 0);
    }

    private static void remove() {
        says("Promise 6");
        RubberStamps x = of("*ab;*c;*def;2c;1def;0ab;");
        x.write(0);
        x.write(1);
        x.write(1);
        due("remove(0)", x.remove(0), 2);
        dueText("stamp 0", stampText(x, 0), "c");
        dueText("stamp 1", stampText(x, 1), "def");
        dueStamp(x, 0, 2, 4, 1);
        dueStamp(x, 1, 1, 3, 2);
        dueCounts(x, 3, 2, 0);
        dueText("plan of c", planText(x, 0), "0");
        due("presses of ab", x.word(2, 2), -1);
        dueThrow("stamp(2, 0)", INDEX, x, () -> x.stamp(2, 0));
        dueThrow("remove(2)", INDEX, x, () -> x.remove(2));
        dueThrow("remove(-1)", INDEX, x, () -> x.remove(-1));
        dueThrow("remove(MAX)", INDEX, x, () -> x.remove(MAX));
        due("remove(1)", x.remove(1), 1);
        due("remove(0)", x.remove(0), 0);
        dueThrow("remove(0)", INDEX, x, () -> x.remove(0));
        due("undo()", x.undo(), 3);
        due("undo()", x.undo(), 2);
        due("undo()", x.undo(), 1);
        dueText("stamp 0", stampText(x, 0), "ab");
        dueStamp(x, 2, 1, 3, 2);

        RubberStamps y = of("*a;*b;*c;*d;*e;*f;*g;*h;*i;*j;0j;");
        due("remove(9) of 10", y.remove(9), 9);
        due("words with plan", y.value(8), 0);
    }

    private static void drop() {
        says("Promise 7");
        RubberStamps x = of("0a;1bc;2def;*bc;");
        due("drop(0)", x.drop(0), 2);
        dueText("word 0", wordText(x, 0), "bc");
        dueText("word 1", wordText(x, 1), "def");
        due("color 0", x.word(0, 1), 1);
        due("color 1", x.word(1, 1), 2);
        due("presses of bc", x.word(0, 2), 1);
        due("presses of def", x.word(1, 2), -1);
        dueThrow("drop(2)", INDEX, x, () -> x.drop(2));
        dueThrow("drop(-1)", INDEX, x, () -> x.drop(-1));
        dueThrow("drop(MIN)", INDEX, x, () -> x.drop(MIN));
        due("drop(1)", x.drop(1), 1);
        due("drop(0)", x.drop(0), 0);
        dueThrow("drop(0)", INDEX, x, () -> x.drop(0));
        due("stamps", x.value(0), 1);
        due("undo()", x.undo(), 3);
        dueText("word 0", wordText(x, 0), "bc");

        RubberStamps y = of("0a;1b;2c;3d;0e;1f;2g;");
        due("drop(6) of 7", y.drop(6), 6);
        due("drop(2) of 6", y.drop(2), 5);
        dueText("word 4", wordText(y, 4), "f");
        due("color 4", y.word(4, 1), 1);
    }

    private static void setColor() {
        says("Promise 8");
        RubberStamps x = of("*a;1a;2a;");
        due("setColor(0, 3)", x.setColor(0, 3), 1);
        due("color 0", x.word(0, 1), 3);
        due("color 1", x.word(1, 1), 2);
        due("setColor(0, 0)", x.setColor(0, 0), 3);
        due("setColor(0, 0)", x.setColor(0, 0), 0);
        x.write(0);
        due("the ink is the new color", x.stamp(0, 1), 0);
        dueThrow("setColor(2, 0)", INDEX, x, () -> x.setColor(2, 0));
        dueThrow("setColor(-1, 4)", INDEX, x, () -> x.setColor(-1, 4));
        dueThrow("setColor(0, 4)", ARGUMENT, x, () -> x.setColor(0, 4));
        dueThrow("setColor(0, -1)", ARGUMENT, x, () -> x.setColor(0, -1));
        due("undo()", x.undo(), 3);
        due("undo() of the call without change", x.undo(), 2);
        due("color 0", x.word(0, 1), 0);
        due("undo()", x.undo(), 1);
        due("color 0", x.word(0, 1), 3);
        due("undo()", x.undo(), 0);
        due("color 0", x.word(0, 1), 1);
    }

    private static void setLimits() {
        says("Promise 9");
        RubberStamps x = of("*a;0a;");
        x.write(0);
        due("setLimits(1, 1)", x.setLimits(1, 1), 100);
        due("setLimits(200, 20)", x.setLimits(200, 20), 1);
        due("setLimits(7, 2)", x.setLimits(7, 2), 200);
        due("limit", x.value(2), 7);
        due("load", x.value(3), 2);
        dueStamp(x, 0, 0, 4, 1);
        dueThrow("setLimits(0, 1)", ARGUMENT, x, () -> x.setLimits(0, 1));
        dueThrow("setLimits(201, 1)", ARGUMENT, x, () -> x.setLimits(201, 1));
        dueThrow("setLimits(1, 0)", ARGUMENT, x, () -> x.setLimits(1, 0));
        dueThrow("setLimits(1, 21)", ARGUMENT, x, () -> x.setLimits(1, 21));
        dueThrow("setLimits(MIN, MAX)", ARGUMENT, x, () -> x.setLimits(MIN, MAX));
        due("undo()", x.undo(), 3);
        due("limit", x.value(2), 200);
        due("load", x.value(3), 20);
    }

    private static void clean() {
        says("Promise 10");
        RubberStamps x = of("*a;*b;3a;0b;");
        due("clean without ink", x.clean(0), 0);
        dueCounts(x, 0, 0, 0);
        x.write(0);
        x.write(1);
        due("clean(0)", x.clean(0), 1);
        dueStamp(x, 0, -1, 0, 1);
        dueStamp(x, 1, 0, 4, 1);
        dueCounts(x, 2, 2, 1);
        due("clean(0) again", x.clean(0), 0);
        dueCounts(x, 2, 2, 1);
        due("undo() of the call without change", x.undo(), 3);
        due("undo()", x.undo(), 2);
        dueStamp(x, 0, 3, 4, 1);
        due("clean(1) of color 0", x.clean(1), 1);
        dueThrow("clean(2)", INDEX, x, () -> x.clean(2));
        dueThrow("clean(-1)", INDEX, x, () -> x.clean(-1));
    }

    private static void value() {
        says("Promise 11");
        RubberStamps x = of("*n;*a;0n;1u;2an;3t;");
        x.setLimits(3, 2);
        due("writeAll()", x.writeAll(), 3);
        int[] values = {2, 4, 3, 2, 4, 4, 2, 1, 0};
        for (int what = 0; what < values.length; what++) {
            due("value(" + what + ")", x.value(what), values[what]);
        }
        x.setLimits(1, 2);
        due("worn out stamps", x.value(7), 2);
        x.setLimits(200, 2);
        due("worn out stamps", x.value(7), 0);
        due("words with plan", x.value(8), 3);
        dueThrow("value(-1)", ARGUMENT, x, () -> x.value(-1));
        dueThrow("value(9)", ARGUMENT, x, () -> x.value(9));
        dueThrow("value(MAX)", ARGUMENT, x, () -> x.value(MAX));
    }

    private static void stamp() {
        says("Promise 12");
        RubberStamps x = of("*bdlmn;*opqsu;*wxz;*na;*abc;0wxz;");
        int[] lengths = {5, 5, 3, 2, 3};
        int[] turnable = {1, 1, 1, 0, 0};
        for (int s = 0; s < 5; s++) {
            due("letters of " + s, x.stamp(s, 0), lengths[s]);
            due("turnable " + s, x.stamp(s, 4), turnable[s]);
            dueStamp(x, s, -1, 0, 0);
        }
        x.setLimits(2, 3);
        x.write(0);
        dueStamp(x, 2, 0, 2, 1);
        due("worn out", x.stamp(2, 5), 0);
        x.write(0);
        due("worn out at the limit", x.stamp(2, 5), 1);
        due("another is not", x.stamp(1, 5), 0);
        for (char c = 'a'; c <= 'z'; c++) {
            RubberStamps one = of("*" + c + ";");
            due("turnable " + c, one.stamp(0, 4), "bdlmnopqsuwxz".indexOf(c) >= 0 ? 1 : 0);
        }
        dueThrow("stamp(5, 0)", INDEX, x, () -> x.stamp(5, 0));
        dueThrow("stamp(-1, 9)", INDEX, x, () -> x.stamp(-1, 9));
        dueThrow("stamp(0, 6)", ARGUMENT, x, () -> x.stamp(0, 6));
        dueThrow("stamp(0, -1)", ARGUMENT, x, () -> x.stamp(0, -1));
    }

    private static void print() {
        says("Promise 13");
        String from = "bdlmnopqsuwxz";
        String to = "qplwuodbsnmxz";
        for (int i = 0; i < from.length(); i++) {
            RubberStamps one = of("*" + from.charAt(i) + ";");
            due("turned " + from.charAt(i), one.print(0, 0, true), to.charAt(i) - 'a');
            due("straight " + from.charAt(i), one.print(0, 0, false), from.charAt(i) - 'a');
        }
        RubberStamps x = of("*bdlmn;*ona;");
        String turned = "uwlpq";
        for (int i = 0; i < 5; i++) {
            due("print(0, " + i + ", true)", x.print(0, i, true), turned.charAt(i) - 'a');
            due("print(0, " + i + ", false)", x.print(0, i, false), "bdlmn".charAt(i) - 'a');
        }
        for (int i = 0; i < 3; i++) {
            due("print(1, " + i + ", true)", x.print(1, i, true), -1);
        }
        due("print(1, 2, false)", x.print(1, 2, false), 0);
        dueThrow("print(0, 5, false)", INDEX, x, () -> x.print(0, 5, false));
        dueThrow("print(0, -1, true)", INDEX, x, () -> x.print(0, -1, true));
        dueThrow("print(1, 3, true)", INDEX, x, () -> x.print(1, 3, true));
        dueThrow("print(2, 0, false)", INDEX, x, () -> x.print(2, 0, false));
        dueThrow("print(-1, 0, true)", INDEX, x, () -> x.print(-1, 0, true));
    }

    private static void word() {
        says("Promise 14");
        RubberStamps x = of("*n;*a;1nan;2nut;3unun;");
        int[] first = {3, 1, 3, 1, 2, 0};
        int[] second = {3, 2, -1, 0, -1, -1};
        int[] third = {4, 3, 4, 1, 1, 0};
        for (int what = 0; what < 6; what++) {
            due("word(0, " + what + ")", x.word(0, what), first[what]);
            due("word(1, " + what + ")", x.word(1, what), second[what]);
            due("word(2, " + what + ")", x.word(2, what), third[what]);
        }
        x.setLimits(3, 1);
        due("inkings of nan with load 1", x.word(0, 4), 3);
        due("cleanings of nan", x.word(0, 5), 0);
        due("unun has a plan", x.word(2, 2), 4);
        due("unun is above the limit", x.word(2, 3), 0);
        due("inkings of unun", x.word(2, 4), -1);
        due("cleanings of unun", x.word(2, 5), -1);
        x.setLimits(100, 5);
        x.write(0);
        due("inkings of unun", x.word(2, 4), 1);
        due("cleanings of unun, press by press", x.word(2, 5), 1);
        long before = x.digest();
        x.word(2, 4);
        due("asking changes nothing", x.digest(), before);
        dueThrow("word(3, 0)", INDEX, x, () -> x.word(3, 0));
        dueThrow("word(-1, 6)", INDEX, x, () -> x.word(-1, 6));
        dueThrow("word(0, 6)", ARGUMENT, x, () -> x.word(0, 6));
        dueThrow("word(0, -1)", ARGUMENT, x, () -> x.word(0, -1));
    }

    private static void letter() {
        says("Promise 15");
        RubberStamps x = of("0az;1abcdefghijkl;");
        due("letter(0, 0)", x.letter(0, 0), 0);
        due("letter(0, 1)", x.letter(0, 1), 25);
        due("letter(1, 11)", x.letter(1, 11), 11);
        dueThrow("letter(0, 2)", INDEX, x, () -> x.letter(0, 2));
        dueThrow("letter(0, -1)", INDEX, x, () -> x.letter(0, -1));
        dueThrow("letter(1, 12)", INDEX, x, () -> x.letter(1, 12));
        dueThrow("letter(2, 0)", INDEX, x, () -> x.letter(2, 0));
        dueThrow("letter(-1, 0)", INDEX, x, () -> x.letter(-1, 0));
    }

    private static void press() {
        says("Promise 16");
        RubberStamps x = of("*n;*o;0uno;1cat;");
        due("press(0, 0)", x.press(0, 0), 1);
        due("press(0, 1)", x.press(0, 1), 0);
        due("press(0, 2)", x.press(0, 2), 2);
        dueThrow("press(0, 3)", INDEX, x, () -> x.press(0, 3));
        dueThrow("press(0, -1)", INDEX, x, () -> x.press(0, -1));
        dueThrow("press(1, 0)", INDEX, x, () -> x.press(1, 0));
        dueThrow("press(1, -1)", INDEX, x, () -> x.press(1, -1));
        dueThrow("press(2, 0)", INDEX, x, () -> x.press(2, 0));
        dueThrow("press(-1, 0)", INDEX, x, () -> x.press(-1, 0));
    }

    private static void bestPlans() {
        says("Promise 16");
        dueText("fewest presses", planText(of("*a;*b;*ab;*aba;0abab;"), 0), "2 2");
        dueText("lower stamp first", planText(of("*ab;*a;*bab;*c;0abab;"), 0), "0 0");
        dueText("lower stamp first, shorter", planText(of("*a;*ab;*bab;*c;0abab;"), 0), "0 2");
        dueText("straight of both ways", planText(of("*oxo;0oxoo;*o;"), 0), "0 1");
        dueText("lower stamp, even turned", planText(of("*u;*n;0n;"), 0), "0'");
        dueText("turned first, by its stamp", planText(of("*nu;0nun;*n;"), 0), "0 1");
        dueText("the longest first is not always best", planText(of("*abcde;*abcd;*efghi;0abcdefghi;*f;*ghi;"), 0), "1 2");
        dueText("12 presses", planText(of("*a;0aaaaaaaaaaaa;"), 0), "0 0 0 0 0 0 0 0 0 0 0 0");
        RubberStamps x = of("*ab;*a;*b;0ab;");
        x.setLimits(1, 5);
        dueText("not yet worn out", planText(x, 0), "0");
        x.write(0);
        dueText("worn out stamps are left out", planText(x, 0), "1 2");
        x.write(0);
        due("nothing is left", x.word(0, 2), -1);
    }

    private static void write() {
        says("Promise 17");
        RubberStamps x = of("*n;*o;2nono;1a;");
        due("write(0)", x.write(0), 4);
        dueStamp(x, 0, 2, 3, 2);
        dueStamp(x, 1, 2, 3, 2);
        dueCounts(x, 4, 2, 0);
        dueThrow("write(2)", INDEX, x, () -> x.write(2));
        dueThrow("write(-1)", INDEX, x, () -> x.write(-1));
        dueThrow("write without plan", STATE, x, () -> x.write(1));
        due("undo()", x.undo(), 1);
        dueCounts(x, 0, 0, 0);
        dueStamp(x, 0, -1, 0, 0);
    }

    private static void inking() {
        says("Promise 17");
        RubberStamps x = of("*n;0nunun;1n;");
        x.setLimits(100, 2);
        due("write(0)", x.write(0), 5);
        dueStamp(x, 0, 0, 1, 5);
        dueCounts(x, 5, 3, 0);
        due("write(1)", x.write(1), 1);
        dueStamp(x, 0, 1, 1, 6);
        dueCounts(x, 6, 4, 1);
        x.write(1);
        dueStamp(x, 0, 1, 0, 7);
        dueCounts(x, 7, 4, 1);
        due("inkings with amount 0", x.word(1, 4), 1);
        due("cleanings with amount 0", x.word(1, 5), 0);
        due("cleanings of the other color with amount 0", x.word(0, 5), 1);
        x.write(1);
        dueStamp(x, 0, 1, 1, 8);
        dueCounts(x, 8, 5, 1);
        x.clean(0);
        x.write(0);
        dueCounts(x, 13, 8, 2);
    }

    private static void wearing() {
        says("Promise 17");
        RubberStamps x = of("*n;*o;0nnn;1no;");
        x.setLimits(3, 5);
        due("up to the limit", x.write(0), 3);
        due("worn out", x.stamp(0, 5), 1);
        dueThrow("write with a worn out stamp", STATE, x, () -> x.write(1));
        x.undo();
        x.write(1);
        due("above the limit", x.word(0, 3), 0);
        dueThrow("write above the limit", STATE, x, () -> x.write(0));

        // Other plans are not looked at: "ab" once more would do, but the best plan takes "aab" twice.
        RubberStamps y = of("*aab;*a;*b;0aabaab;");
        y.setLimits(1, 5);
        due("two presses in the plan", y.word(0, 2), 2);
        due("not possible", y.word(0, 3), 0);

        // A stamp that the plan leaves alone does not matter, even far above a limit that was lowered.
        RubberStamps z = of("*a;*b;0aaa;1b;");
        z.write(0);
        z.setLimits(1, 5);
        due("write(1)", z.write(1), 1);
    }

    private static void writeAll() {
        says("Promise 18");
        RubberStamps x = of("*n;*o;0non;1x;2nn;3o;0n;");
        x.setLimits(3, 5);
        due("writeAll()", x.writeAll(), 3);
        dueStamp(x, 0, 0, 2, 3);
        dueStamp(x, 1, 3, 4, 2);
        dueCounts(x, 5, 3, 1);
        due("writeAll() of nothing possible but o", x.writeAll(), 1);
        due("writeAll() of nothing possible", x.writeAll(), 0);
        due("undo() of the call without change", x.undo(), 3);
        due("undo()", x.undo(), 2);
        dueCounts(x, 5, 3, 1);
        due("undo(), one state for all words", x.undo(), 1);
        dueCounts(x, 0, 0, 0);
        RubberStamps none = new RubberStamps();
        due("writeAll() without words", none.writeAll(), 0);
        due("undo()", none.undo(), 0);

        // The first word wears stamp 0 out, then the second one is possible with the others.
        RubberStamps y = of("*ab;*a;*b;0ab;0ab;");
        y.setLimits(1, 5);
        due("writeAll()", y.writeAll(), 2);
        dueCounts(y, 3, 3, 0);
    }

    private static void fewest() {
        says("Promise 19");
        due("one for both", of("*a;*b;*ab;*n;0ab;1nn;").fewest(), 12);
        due("the lower number", of("*ab;*ab;0ab;").fewest(), 1);
        due("lower as a set", of("*a;*b;*c;*ab;*bc;0abc;").fewest(), 12);
        due("smallest before lowest", of("*a;*b;*c;*abc;0abc;").fewest(), 8);
        due("lowest number, not lowest stamp", of("*a;*ab;*cd;*bcd;0abcd;").fewest(), 6);
        due("turned", of("*u;*a;0n;1u;").fewest(), 1);
        due("without words", of("*a;").fewest(), 0);
        due("without anything", new RubberStamps().fewest(), 0);
        due("without stamps", of("0a;").fewest(), -1);
        due("one word without plan", of("*a;0a;1b;").fewest(), -1);
        due("all 10", of("*a;*b;*c;*d;*e;*f;*g;*h;*i;*j;0abcdefghij;").fewest(), 1023);
        RubberStamps x = of("*ab;*a;*b;0ab;");
        x.setLimits(1, 5);
        due("stamp 0", x.fewest(), 1);
        x.write(0);
        due("stamp 0 is worn out", x.fewest(), 6);
        x.write(0);
        due("all are worn out", x.fewest(), -1);
    }

    private static void needed() {
        says("Promise 20");
        RubberStamps x = of("*n;*a;*na;0nana;1na;2nn;3at;0an;");
        due("needed(0)", x.needed(0), 2);
        due("needed(1)", x.needed(1), 1);
        due("needed(2)", x.needed(2), 0);
        dueThrow("needed(3)", INDEX, x, () -> x.needed(3));
        dueThrow("needed(-1)", INDEX, x, () -> x.needed(-1));
        RubberStamps y = of("*b;*q;*d;0b;1p;");
        due("another does it too", y.needed(0), 0);
        due("needed(2)", y.needed(2), 1);
        RubberStamps z = of("*a;*a;0a;");
        z.setLimits(1, 5);
        z.write(0);
        due("a worn out stamp is not needed", z.needed(0), 0);
        due("the other one is", z.needed(1), 1);
        due("without words", of("*a;").needed(0), 0);
    }

    private static void order() {
        says("Promise 21");
        dueOrder(of("*n;0n;1n;0n;1n;"), 0, 2, 1, 3);
        RubberStamps x = of("*n;*o;0n;1n;2o;0no;1n;");
        dueOrder(x, 0, 2, 3, 1, 4);
        due("leastCleanings()", x.leastCleanings(), 2);
        RubberStamps y = of("*n;0n;1n;");
        y.setColor(0, 1);
        y.write(1);
        y.setColor(0, 0);
        dueOrder(y, 1, 0);
        long before = y.digest();
        y.order(0);
        due("asking changes nothing", y.digest(), before);
        dueThrow("order(2)", INDEX, y, () -> y.order(2));
        dueThrow("order(-1)", INDEX, y, () -> y.order(-1));
        RubberStamps none = of("*n;0n;1a;");
        dueThrow("no order", STATE, none, () -> none.order(0));
        dueThrow("no order and no word", INDEX, none, () -> none.order(2));
        dueThrow("without words", INDEX, new RubberStamps(), () -> new RubberStamps().order(0));

        // Only when word 1 has worn stamp 0 out, word 0 is possible: with the stamps 1 and 2.
        RubberStamps z = of("*ab;*a;*b;0abab;0ab;");
        z.setLimits(2, 5);
        z.write(1);
        dueOrder(z, 1, 0);
        dueOrder(of("*a;*b;*c;*d;*e;*f;*g;0a;0b;0c;0d;0e;0f;0g;"), 0, 1, 2, 3, 4, 5, 6);
    }

    private static void leastCleanings() {
        says("Promise 22");
        due("without words", new RubberStamps().leastCleanings(), 0);
        due("without words, with stamps", of("*a;").leastCleanings(), 0);
        due("no order", of("*a;0b;").leastCleanings(), -1);
        RubberStamps x = of("*n;0n;1n;2n;0u;");
        due("three colors", x.leastCleanings(), 2);
        x.write(2);
        due("the ink that is there counts", x.leastCleanings(), 2);
        x.drop(2);
        due("all must be cleaned", x.leastCleanings(), 2);
        due("cleanings so far stay", x.value(6), 0);
        x.write(0);
        due("cleanings so far are not counted again", x.leastCleanings(), 1);
        x.setLimits(4, 5);
        due("not enough wear is left", x.leastCleanings(), -1);
    }

    private static void bestCut() {
        says("Promise 23");
        RubberStamps x = of("*a;*b;0abab;1ab;");
        dueCut(x, 1, 0, 0, 1, 0);
        dueCut(x, 2, 0, 0, 2, 3);
        dueCut(x, 3, 0, 0, 2, 3);
        dueCut(x, 5, 0, 0, 2, 3);
        dueCut(of("0ab;1c;"), 5, 0, 0, 2, 99);
        dueCut(of("*a;0ab;1c;"), 1, 1, 0, 1, 99);
        dueCut(of("*a;0ab;1cd;"), 1, 0, 1, 1, 98);
        dueCut(of("*a;0t;1ctt;*c;"), 5, 0, 0, 1, 196);
        dueCut(of("*n;*o;0uo;1on;"), 2, 0, 0, 2, 2);
        dueCut(new RubberStamps(), 5, -1, -1, -1, -1);
        dueCut(of("*a;"), 5, -1, -1, -1, -1);
        dueCut(of("*a;*a;*a;*a;*a;*a;*a;*a;*a;*a;0ab;"), 5, -1, -1, -1, -1);
        dueCut(of("*a;*a;*a;*a;*a;*a;*a;*a;*a;0ab;"), 5, 0, 0, 2, 99);
        RubberStamps y = of("*ab;0ab;");
        dueCut(y, 5, 0, 0, 1, 0);
        y.setLimits(1, 5);
        y.write(0);
        dueCut(y, 5, 0, 0, 2, 99);
        long before = y.digest();
        y.bestCut(0, 5);
        due("asking changes nothing", y.digest(), before);
        dueThrow("bestCut(-1, 1)", ARGUMENT, y, () -> y.bestCut(-1, 1));
        dueThrow("bestCut(4, 1)", ARGUMENT, y, () -> y.bestCut(4, 1));
        dueThrow("bestCut(0, 0)", ARGUMENT, y, () -> y.bestCut(0, 0));
        dueThrow("bestCut(0, 6)", ARGUMENT, y, () -> y.bestCut(0, 6));
        RubberStamps empty = new RubberStamps();
        dueThrow("bestCut(4, 1) without words", ARGUMENT, empty, () -> empty.bestCut(4, 1));
    }

    private static void lettersPerPress() {
        says("Promise 24");
        dueMean(new RubberStamps(), 0.0);
        dueMean(of("*a;"), 0.0);
        dueMean(of("*a;0b;"), 0.0);
        dueMean(of("*abc;*d;0abc;1abcd;2x;"), 7.0 / 3.0);
        dueMean(of("*a;0aa;1a;"), 1.0);
        RubberStamps x = of("*ab;*a;*b;0abab;");
        x.setLimits(2, 5);
        dueMean(x, 2.0);
        x.write(0);
        dueMean(x, 1.0);
    }

    private static void undo() {
        says("Promise 25");
        RubberStamps x = of("*a;0a;");
        for (int color = 1; color <= 3; color++) {
            x.setColor(0, color);
        }
        x.setLimits(9, 9);
        x.write(0);
        due("undo()", x.undo(), 3);
        due("undo()", x.undo(), 2);
        due("limit", x.value(2), 100);
        due("undo()", x.undo(), 1);
        due("color", x.word(0, 1), 2);
        due("undo()", x.undo(), 0);
        due("color", x.word(0, 1), 1);
        dueThrow("a fifth undo()", STATE, x, () -> x.undo());
        x.setColor(0, 0);
        type(x, "*b;");
        due("undo()", x.undo(), 0);
        due("the text is not restored", x.clearText(), 3);
        due("color", x.word(0, 1), 1);

        RubberStamps y = of("*a;0a;");
        y.setColor(0, 3);
        y.undo();
        y.setColor(0, 2);
        y.write(0);
        due("undo()", y.undo(), 2);
        due("undo()", y.undo(), 1);
        due("color", y.word(0, 1), 0);
        due("undo() of parse", y.undo(), 0);
        due("stamps", y.value(0), 0);
        due("words", y.value(1), 0);
    }

    private static void digest() {
        says("Promise 26");
        long h = 3389;
        int[] fresh = {0, 0, 0, 100, 5, 0, 0, 0, 0, 0, 0, 0};
        for (int v : fresh) {
            h = 31 * h + v;
        }
        due("digest of a new object", new RubberStamps().digest(), h);

        RubberStamps x = of("*no;*u;0noun;2cat;");
        x.write(0);
        h = 3389;
        int[] values = {18,
            2, 2, 100, 5, 3, 2, 0, 0, 1,
            2, 0, 4, 1, 1, 0, 13, 14,
            1, 0, 3, 2, 1, 0, 20,
            4, 0, 3, 1, 0, 0, 13, 14, 20, 13, 0, 2, 3,
            3, 2, -1, 0, -1, -1, 2, 0, 19,
            -1, 2};
        for (int v : values) {
            h = 31 * h + v;
        }
        due("digest", x.digest(), h);
        due("digest again", x.digest(), h);
        x.append(0);
        x.drop(1);
        h = 3389;
        int[] later = {19,
            2, 1, 100, 5, 3, 2, 0, 0, 1,
            2, 0, 4, 1, 1, 0, 13, 14,
            1, 0, 3, 2, 1, 0, 20,
            4, 0, 3, 1, 0, 0, 13, 14, 20, 13, 0, 2, 3,
            3, 3};
        for (int v : later) {
            h = 31 * h + v;
        }
        due("digest with a word less", x.digest(), h);
    }
}
