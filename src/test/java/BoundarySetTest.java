/** A test for each boundary case that the document names about stamps, words, the set text, and promises 1 to 10. */
public final class BoundarySetTest extends Checks {
    public static void main(String[] args) {
        stampCount();
        stampLetters();
        newStamp();
        wornOut();
        turnable();
        wordCount();
        wordLetters();
        wordColors();
        newObject();
        append();
        clearText();
        textItems();
        syntaxErrors();
        parse();
        cutNumbers();
        cutParts();
        remove();
        drop();
        setColor();
        setLimits();
        amountsStay();
        clean();
        end("boundaries of the set");
    }

    // ---- Terms: stamps

    private static void stampCount() {
        says("Terms, Stamps: There are at most 10 stamps, numbered from 0.");
        test("10 stamps are taken, with the numbers 0 to 9", () -> {
            RubberStamps x = of(TEN);
            due("value(0)", x.value(0), 10);
            dueText("stamp 0", stampText(x, 0), "a");
            dueText("stamp 9", stampText(x, 9), "j");
        });
        test("no stamp has the number 10", () ->
            refused("stamp(10, 0)", INDEX, () -> of(TEN), x -> x.stamp(10, 0)));
        test("no stamp has the number -1", () ->
            refused("stamp(-1, 0)", INDEX, () -> of(TEN), x -> x.stamp(-1, 0)));
        test("an 11th stamp is not parsed", () -> due("parse()", parsed(TEN + "*k;"), -10 - TEN.length()));
        test("a 10th stamp is cut, with the number 9", () -> {
            RubberStamps x = of(TEN.substring(3) + "0z;");
            due("cut(0, 0, 1)", x.cut(0, 0, 1), 9);
            due("value(0)", x.value(0), 10);
        });
        test("an 11th stamp is not cut", () ->
            refused("cut(0, 0, 1)", STATE, () -> of(TEN + "0a;"), x -> x.cut(0, 0, 1)));
        test("the tenth one can write", () -> {
            RubberStamps x = of(TEN + "0j;");
            due("press(0, 0)", x.press(0, 0), 18);
            due("write(0)", x.write(0), 1);
            dueStamp(x, 9, 0, 4, 1);
        });
    }

    private static void stampLetters() {
        says("Terms, Stamps: A stamp has 1 to 5 letters \"a\" to \"z\".");
        test("1 letter", () -> due("stamp(0, 0)", of("*a;").stamp(0, 0), 1));
        test("5 letters", () -> dueText("stamp 0", stampText(of("*zyxwv;"), 0), "zyxwv"));
        test("no letter", () -> due("parse()", parsed("*;"), -11));
        test("6 letters", () -> due("parse()", parsed("*zyxwvu;"), -16));
        test("a and z", () -> dueText("stamp 0", stampText(of("*az;"), 0), "az"));
        test("the byte below a", () -> due("parse()", parsed("*`;"), -11));
        test("the byte above z", () -> due("parse()", parsed("*{;"), -11));
        test("A", () -> due("parse()", parsed("*A;"), -11));
        test("Z", () -> due("parse()", parsed("*Z;"), -11));
    }

    private static void newStamp() {
        says("Terms, Stamps: an ink, a color 0 to 3 or none (initially none); an amount (initially 0); and a wear.");
        test("a stamp that was parsed", () -> dueStamp(of("*a;"), 0, NONE, 0, 0));
        test("a stamp that was cut", () -> {
            RubberStamps x = of("0a;");
            x.cut(0, 0, 1);
            dueStamp(x, 0, NONE, 0, 0);
        });
        test("a stamp that was cut beside one that has written", () -> {
            RubberStamps x = of("*a;0a;");
            x.write(0);
            x.cut(0, 0, 1);
            dueStamp(x, 0, 0, 4, 1);
            dueStamp(x, 1, NONE, 0, 0);
        });
        test("a stamp that was cut with the number of one that was removed", () -> {
            RubberStamps x = of("*a;*a;0a;");
            x.write(0);
            x.remove(0);
            x.remove(0);
            x.cut(0, 0, 1);
            dueStamp(x, 0, NONE, 0, 0);
        });
        test("the tenth stamp, cut with the number of one that was removed", () -> {
            RubberStamps x = of(TEN + "2j;");
            x.write(0);
            x.remove(9);
            x.cut(0, 0, 1);
            dueStamp(x, 9, NONE, 0, 0);
        });
        test("the ink 0 is not none", () -> {
            RubberStamps x = of("*a;0a;");
            x.write(0);
            due("stamp(0, 1)", x.stamp(0, 1), 0);
        });
        test("the ink 3", () -> {
            RubberStamps x = of("*a;3a;");
            x.write(0);
            due("stamp(0, 1)", x.stamp(0, 1), 3);
        });
    }

    private static void dueWorn(RubberStamps x, int wear, int wornOut) {
        due("stamp(0, 3)", x.stamp(0, 3), wear);
        due("stamp(0, 5)", x.stamp(0, 5), wornOut);
        due("value(7)", x.value(7), wornOut);
        due("value(8)", x.value(8), wornOut == 1 ? 0 : x.value(1));
    }

    private static void wornOut() {
        says("Terms, Stamps: A stamp whose wear is at least the limit (1 to 200, initially 100) is worn out.");
        String text = "*a;0aaaaaaaaaaaa;0a;";
        test("initially 100: the wear 99", () -> {
            RubberStamps x = of(text);
            write(x, 0, 8);
            write(x, 1, 3);
            dueWorn(x, 99, 0);
        });
        test("initially 100: the wear 100", () -> {
            RubberStamps x = of(text);
            write(x, 0, 8);
            write(x, 1, 4);
            dueWorn(x, 100, 1);
        });
        test("limit 200: the wear 199", () -> {
            RubberStamps x = of(text, 200, 5);
            write(x, 0, 16);
            write(x, 1, 7);
            dueWorn(x, 199, 0);
        });
        test("limit 200: the wear 200", () -> {
            RubberStamps x = of(text, 200, 5);
            write(x, 0, 16);
            write(x, 1, 8);
            dueWorn(x, 200, 1);
        });
        test("limit 1: the wear 0", () -> dueWorn(of(text, 1, 5), 0, 0));
        test("limit 1: the wear 1", () -> {
            RubberStamps x = of(text, 1, 5);
            x.write(1);
            dueWorn(x, 1, 1);
        });
        test("a limit that is lowered to the wear", () -> {
            RubberStamps x = of("*a;0aaa;");
            x.write(0);
            x.setLimits(3, 5);
            dueWorn(x, 3, 1);
        });
        test("a limit that is lowered below the wear", () -> {
            RubberStamps x = of("*a;0aaa;");
            x.write(0);
            x.setLimits(2, 5);
            dueWorn(x, 3, 1);
        });
        test("a limit that is lowered to one above the wear", () -> {
            RubberStamps x = of("*a;0aaa;");
            x.write(0);
            x.setLimits(4, 5);
            dueWorn(x, 3, 0);
        });
        test("a limit that is raised again", () -> {
            RubberStamps x = of("*a;0aaa;", 3, 5);
            x.write(0);
            dueWorn(x, 3, 1);
            x.setLimits(4, 5);
            dueWorn(x, 3, 0);
        });
        test("a cut stamp is not worn out at the least limit", () -> {
            RubberStamps x = of("0a;", 1, 5);
            x.cut(0, 0, 1);
            dueWorn(x, 0, 0);
        });
    }

    private static void turnable() {
        says("Terms, Stamps: It can be pressed turned if each of its letters is one of b, d, l, m, n, o, p, q, s, u, w, x"
            + " and z: then it prints its letters in reverse order, with b and q, d and p, m and w, and n and u exchanged"
            + " for each other (l, o, s, x and z stay).");
        String from = "bdlmnopqsuwxz";
        String to = "qplwuodbsnmxz";
        for (char c = 'a'; c <= 'z'; c++) {
            int at = from.indexOf(c);
            String text = "*" + c + ";";
            test("the letter " + c, () -> {
                RubberStamps x = of(text);
                due("stamp(0, 4)", x.stamp(0, 4), at >= 0 ? 1 : 0);
                due("print(0, 0, true)", x.print(0, 0, true), at >= 0 ? to.charAt(at) - 'a' : NONE);
                due("print(0, 0, false)", x.print(0, 0, false), text.charAt(1) - 'a');
            });
        }
        for (int i = 0; i < 5; i++) {
            int place = i;
            test("one letter that can't be turned, at the place " + i, () -> {
                StringBuilder letters = new StringBuilder("bdlmn");
                letters.setCharAt(place, 'a');
                RubberStamps x = of("*" + letters + ";");
                due("stamp(0, 4)", x.stamp(0, 4), 0);
                for (int k = 0; k < 5; k++) {
                    due("print(0, " + k + ", true)", x.print(0, k, true), NONE);
                }
            });
        }
        test("5 letters in reverse order", () -> dueText("print", printText(of("*bdlmn;"), 0, true), "uwlpq"));
        test("2 letters in reverse order", () -> dueText("print", printText(of("*ox;"), 0, true), "xo"));
        test("a stamp that is its own turned print", () -> dueText("print", printText(of("*nu;"), 0, true), "nu"));
        test("a word of the turned print", () -> duePlan("*bdlmn;0uwlpq;", "0'"));
        test("no word of the letters in reverse order alone", () -> duePlan("*bdlmn;0nmldb;", ""));
        test("no word of the exchanged letters alone", () -> duePlan("*bdlmn;0qplwu;", ""));
        test("no turned print of a stamp with one letter that can't be turned", () -> duePlan("*na;0au;", ""));
    }

    // ---- Terms: words

    private static void wordCount() {
        says("Terms, Words: There are at most 7 words, numbered from 0.");
        test("7 words are taken, with the numbers 0 to 6", () -> {
            RubberStamps x = of(SEVEN);
            due("value(1)", x.value(1), 7);
            dueText("word 0", wordText(x, 0), "a");
            dueText("word 6", wordText(x, 6), "g");
            due("color of word 6", x.word(6, 1), 2);
        });
        test("no word has the number 7", () -> refused("word(7, 0)", INDEX, () -> of(SEVEN), x -> x.word(7, 0)));
        test("no word has the number -1", () -> refused("word(-1, 0)", INDEX, () -> of(SEVEN), x -> x.word(-1, 0)));
        test("an 8th word is not parsed", () -> due("parse()", parsed(SEVEN + "3h;"), -10 - SEVEN.length()));
        test("the seventh one can be written", () -> {
            RubberStamps x = of("*g;" + SEVEN);
            due("write(6)", x.write(6), 1);
            dueStamp(x, 0, 2, 4, 1);
        });
    }

    private static void wordLetters() {
        says("Terms, Words: A word has 1 to 12 letters.");
        test("1 letter", () -> due("word(0, 0)", of("0a;").word(0, 0), 1));
        test("12 letters", () -> {
            RubberStamps x = of("0zbcdefghijkz;");
            due("word(0, 0)", x.word(0, 0), 12);
            dueText("word 0", wordText(x, 0), "zbcdefghijkz");
        });
        test("no letter", () -> due("parse()", parsed("0;"), -11));
        test("13 letters", () -> due("parse()", parsed("0abcdefghijklm;"), -23));
        test("the byte below a", () -> due("parse()", parsed("0`;"), -11));
        test("the byte above z", () -> due("parse()", parsed("0{;"), -11));
        test("A", () -> due("parse()", parsed("0A;"), -11));
    }

    private static void wordColors() {
        says("Terms, Words: and a color, 0 to 3.");
        test("0", () -> due("word(0, 1)", of("0a;").word(0, 1), 0));
        test("3", () -> due("word(0, 1)", of("3a;").word(0, 1), 3));
        test("the byte below 0", () -> due("parse()", parsed("/a;"), -10));
        test("4", () -> due("parse()", parsed("4a;"), -10));
    }

    // ---- Promise 1

    private static void newObject() {
        says("Promise 1: Creates a set without stamps and words.");
        Maker fresh = RubberStamps::new;
        test("no stamps", () -> asked("value(0)", fresh, x -> x.value(0), 0));
        test("no words", () -> asked("value(1)", fresh, x -> x.value(1), 0));
        test("the limit is initially 100", () -> asked("value(2)", fresh, x -> x.value(2), 100));
        test("the load is initially 5", () -> asked("value(3)", fresh, x -> x.value(3), 5));
        for (int what = 4; what <= 8; what++) {
            int w = what;
            test("value(" + w + ")", () -> asked("value(" + w + ")", fresh, x -> x.value(w), 0));
        }
        test("stamp(0, 0)", () -> refused("stamp(0, 0)", INDEX, fresh, x -> x.stamp(0, 0)));
        test("print(0, 0, false)", () -> refused("print(0, 0, false)", INDEX, fresh, x -> x.print(0, 0, false)));
        test("remove(0)", () -> refused("remove(0)", INDEX, fresh, x -> x.remove(0)));
        test("clean(0)", () -> refused("clean(0)", INDEX, fresh, x -> x.clean(0)));
        test("needed(0)", () -> refused("needed(0)", INDEX, fresh, x -> x.needed(0)));
        test("word(0, 0)", () -> refused("word(0, 0)", INDEX, fresh, x -> x.word(0, 0)));
        test("letter(0, 0)", () -> refused("letter(0, 0)", INDEX, fresh, x -> x.letter(0, 0)));
        test("press(0, 0)", () -> refused("press(0, 0)", INDEX, fresh, x -> x.press(0, 0)));
        test("cut(0, 0, 1)", () -> refused("cut(0, 0, 1)", INDEX, fresh, x -> x.cut(0, 0, 1)));
        test("drop(0)", () -> refused("drop(0)", INDEX, fresh, x -> x.drop(0)));
        test("setColor(0, 0)", () -> refused("setColor(0, 0)", INDEX, fresh, x -> x.setColor(0, 0)));
        test("write(0)", () -> refused("write(0)", INDEX, fresh, x -> x.write(0)));
        test("order(0)", () -> refused("order(0)", INDEX, fresh, x -> x.order(0)));
        test("undo()", () -> refused("undo()", STATE, fresh, x -> x.undo()));
        test("the text is empty", () -> due("clearText()", new RubberStamps().clearText(), 0));
        test("what one object does, another does not see", () -> {
            RubberStamps x = new RubberStamps();
            RubberStamps y = rich();
            y.digest();
            dueSame("beside another object", x, new RubberStamps());
        });
    }

    // ---- Promises 2 and 3

    private static void append() {
        says("Promise 2, append: value: the byte, 0 to 127.");
        test("0", () -> due("append(0)", new RubberStamps().append(0), 1));
        test("127", () -> due("append(127)", new RubberStamps().append(127), 1));
        test("-1", () -> refused("append(-1)", ARGUMENT, Checks::rich, x -> x.append(-1)));
        test("128", () -> refused("append(128)", ARGUMENT, Checks::rich, x -> x.append(128)));
        test("256 + 97 is no \"a\"", () -> refused("append(353)", ARGUMENT, Checks::rich, x -> x.append(353)));
        test("the greatest int", () -> refused("append(MAX)", ARGUMENT, Checks::rich, x -> x.append(MAX)));
        test("the least int", () -> refused("append(MIN)", ARGUMENT, Checks::rich, x -> x.append(MIN)));

        says("Promise 2, append: Returns the new length of the text.");
        test("1 to 150", () -> {
            RubberStamps x = new RubberStamps();
            for (int i = 1; i <= 150; i++) {
                due("append(97)", x.append(97), i);
            }
        });
        test("1 again behind clearText()", () -> {
            RubberStamps x = type(new RubberStamps(), "abc");
            x.clearText();
            due("append(97)", x.append(97), 1);
        });

        says("Promise 2, append: Throws IllegalStateException if the text has 150 bytes.");
        String allBytes = repeated("0abcdefghijkl;", 7) + repeated("*abcde;", 7) + "*z;";
        Maker longest = () -> type(new RubberStamps(), allBytes);
        test("the 150th byte is taken", () -> {
            RubberStamps x = type(new RubberStamps(), repeated("a", 149));
            due("append(97)", x.append(97), 150);
        });
        test("a 151st byte is not", () -> refused("append(97)", STATE, longest, x -> x.append(97)));
        test("clearText() makes room", () -> {
            RubberStamps x = type(new RubberStamps(), repeated("a", 150));
            x.clearText();
            due("append(97)", x.append(97), 1);
        });
        test("a value out of range comes first: -1", () -> refused("append(-1)", ARGUMENT, longest, x -> x.append(-1)));
        test("a value out of range comes first: 128", () -> refused("append(128)", ARGUMENT, longest, x -> x.append(128)));
        test("all 150 bytes are read", () -> {
            RubberStamps x = of(allBytes);
            due("value(0)", x.value(0), 8);
            due("value(1)", x.value(1), 7);
            dueText("stamp 7", stampText(x, 7), "z");
            due("clearText()", x.clearText(), 150);
        });
    }

    private static void clearText() {
        says("Promise 3, clearText: Empties the set text. Returns the length that it had.");
        test("an empty text", () -> due("clearText()", new RubberStamps().clearText(), 0));
        test("1 byte", () -> due("clearText()", type(new RubberStamps(), "a").clearText(), 1));
        test("150 bytes", () -> due("clearText()", type(new RubberStamps(), repeated("a", 150)).clearText(), 150));
        test("twice", () -> {
            RubberStamps x = type(new RubberStamps(), "abc");
            due("clearText()", x.clearText(), 3);
            due("clearText()", x.clearText(), 0);
        });
        test("the set stays", () -> {
            RubberStamps x = of("*ab;0ab;");
            x.clearText();
            due("value(0)", x.value(0), 1);
            due("value(1)", x.value(1), 1);
        });
        test("nothing of the old text is left", () -> {
            RubberStamps x = type(new RubberStamps(), "*ab;0ab;");
            x.clearText();
            x.append('*');
            due("parse()", x.parse(), -11);
        });
    }

    // ---- Terms: set text

    private static void textItems() {
        says("Terms, Set text: It is a sequence of items, each terminated by a semicolon; there may be no items.");
        test("no items", () -> due("parse()", parsed(""), 0));
        test("one stamp", () -> due("parse()", parsed("*a;"), 1));
        test("one word", () -> due("parse()", parsed("0a;"), 1));
        test("stamps and words in any order keep their own order", () -> {
            RubberStamps x = of("2noun;*no;0a;*abcde;3abcdefghijkl;*z;");
            dueText("stamps", stampText(x, 0) + " " + stampText(x, 1) + " " + stampText(x, 2), "no abcde z");
            dueText("words", wordText(x, 0) + " " + wordText(x, 1) + " " + wordText(x, 2), "noun a abcdefghijkl");
            due("color 0", x.word(0, 1), 2);
            due("color 1", x.word(1, 1), 0);
            due("color 2", x.word(2, 1), 3);
        });
        test("a stamp without a semicolon", () -> due("parse()", parsed("*a"), -12));
        test("a word without a semicolon", () -> due("parse()", parsed("0a"), -12));
        test("a semicolon alone", () -> due("parse()", parsed(";"), -10));
        test("two semicolons", () -> due("parse()", parsed("*a;;"), -13));

        says("Terms, Set text: There are no spaces.");
        test("before an item", () -> due("parse()", parsed(" *a;"), -10));
        test("behind the star", () -> due("parse()", parsed("* a;"), -11));
        test("behind the color", () -> due("parse()", parsed("0 a;"), -11));
        test("between letters", () -> due("parse()", parsed("*a b;"), -12));
        test("before a semicolon", () -> due("parse()", parsed("0a ;"), -12));
        test("between items", () -> due("parse()", parsed("*a; 0a;"), -13));
        test("at the end", () -> due("parse()", parsed("*a;0a; "), -16));
    }

    private static void error(String what, String text, int position) {
        test(what, () -> {
            int length = text.length();
            Maker maker = () -> type(richWithRoom(), text);
            asked("parse() of " + length + " bytes", maker, x -> x.parse(), -10 - position);
        });
    }

    private static void syntaxErrors() {
        says("Terms, Set text: The syntax error position is the index of the first byte that cannot stand where it stands.");
        error("the first byte: a letter", "a;", 0);
        error("the first byte: a semicolon", ";", 0);
        error("the first byte: 4", "4a;", 0);
        error("the first byte: the byte below 0", "/a;", 0);
        error("the byte 0", "\0", 0);
        error("the byte 127", "*\177", 1);
        error("a star behind a star", "**a;", 1);
        error("a digit behind a star", "*0a;", 1);
        error("a semicolon behind a star", "*;", 1);
        error("a semicolon behind a color", "0;", 1);
        error("a color behind a color", "00a;", 1);
        error("a star behind a color", "0*a;", 1);
        error("a star behind a letter", "*a*b;", 2);
        error("a digit behind a letter", "0a1b;", 2);
        error("the first of two errors", "*a;?;!", 3);
        error("the last byte of 150", repeated("0abcdefghijkl;", 7) + repeated("*abcde;", 7) + "*z?", 149);

        says("Terms, Set text: a letter too many, the \"*\" of an 11th stamp, the digit of an 8th word, too.");
        error("the 6th letter of a stamp", "*abcdef;", 6);
        error("the 6th letter of a later stamp", "0abcdef;*a;*abcdef;", 17);
        error("the 13th letter of a word", "0abcdefghijklm;", 13);
        error("the star of an 11th stamp", TEN + "*k;", 30);
        error("the star of an 11th stamp at the end", TEN + "*", 30);
        error("the star of an 11th stamp behind a word", TEN + "0a;*k;", 33);
        error("the digit of an 8th word", SEVEN + "3h;", 21);
        error("the digit of an 8th word at the end", SEVEN + "3", 21);
        error("the digit of an 8th word behind a stamp", SEVEN + "*a;3h;", 24);
        error("an 11th stamp behind everything", SEVEN + TEN + "*a;", 51);
        error("an 8th word behind everything", SEVEN + TEN + "0a;", 51);

        says("Terms, Set text: or the length of the text if the text ends too early.");
        error("behind the star", "*", 1);
        error("behind the color", "3", 1);
        error("behind one letter of a stamp", "*a", 2);
        error("behind 5 letters of a stamp", "*abcde", 6);
        error("behind one letter of a word", "0a", 2);
        error("behind 12 letters of a word", "0abcdefghijkl", 13);
        error("in a later item", "*a;0b;*", 7);
        error("behind 150 bytes", repeated("0abcdefghijkl;", 7) + repeated("*abcde;", 7) + "*zz", 150);
    }

    // ---- Promise 4

    private static void parse() {
        says("Promise 4, parse: Makes the stamps and words those of the text.");
        test("nothing of the old set is left", () -> {
            RubberStamps x = type(full(), "*b;3cc;");
            due("parse()", x.parse(), 2);
            dueText("stamp 0", stampText(x, 0), "b");
            dueText("word 0", wordText(x, 0), "cc");
            due("value(0)", x.value(0), 1);
            due("value(1)", x.value(1), 1);
            due("value(8)", x.value(8), 0);
        });
        test("an empty text empties the set", () -> {
            RubberStamps x = type(full(), "");
            due("parse()", x.parse(), 0);
            due("value(0)", x.value(0), 0);
            due("value(1)", x.value(1), 0);
        });

        says("Promise 4, parse: all stamps without ink and wear, with no presses, inkings and cleanings so far.");
        test("the same text again", () -> {
            RubberStamps x = of("*n;0n;1u;");
            x.write(0);
            x.write(1);
            dueCounts(x, 2, 2, 1);
            x.parse();
            dueStamp(x, 0, NONE, 0, 0);
            dueCounts(x, 0, 0, 0);
        });

        says("Promise 4, parse: limit and load stay.");
        test("the least", () -> {
            RubberStamps x = type(of("*a;", 1, 1), "*b;");
            x.parse();
            due("value(2)", x.value(2), 1);
            due("value(3)", x.value(3), 1);
        });
        test("the greatest", () -> {
            RubberStamps x = type(of("*a;", 200, 20), "");
            x.parse();
            due("value(2)", x.value(2), 200);
            due("value(3)", x.value(3), 20);
        });

        says("Promise 4, parse: The text stays as it is.");
        test("parse() again", () -> {
            RubberStamps x = of("*a;0a;");
            x.drop(0);
            due("parse()", x.parse(), 2);
            due("clearText()", x.clearText(), 6);
        });
        test("with a syntax error", () -> {
            RubberStamps x = type(new RubberStamps(), "*a;0");
            due("parse()", x.parse(), -14);
            x.append('a');
            x.append(';');
            due("parse()", x.parse(), 2);
        });

        says("Promise 4, parse: Undoable, if there is no syntax error.");
        test("a text without an error", () -> undoable("parse()", Checks::richWithRoom, x -> x.parse(), 2));
        test("an empty text", () -> undoable("parse()", () -> type(richWithRoom(), ""), x -> x.parse(), 0));
        test("an empty text in a new object", () -> undoable("parse()", RubberStamps::new, x -> x.parse(), 0));
        test("a text with an error", () -> {
            RubberStamps x = type(new RubberStamps(), "*");
            x.parse();
            due("saved states", savedStates(x), 0);
        });

        says("Promise 4, parse: Returns the number of stamps and words together.");
        test("0", () -> due("parse()", parsed(""), 0));
        test("10 stamps", () -> due("parse()", parsed(TEN), 10));
        test("7 words", () -> due("parse()", parsed(SEVEN), 7));
        test("all 17", () -> due("parse()", parsed(SEVEN + TEN), 17));
        test("all 17, mixed", () -> due("parse()", parsed("*a;0a;*b;0b;*c;0c;*d;0d;*e;0e;*f;0f;*g;0g;*h;*i;*j;"), 17));

        says("Promise 4, parse: -10 minus the syntax error position if there is a syntax error (then nothing changes).");
        error("the least position", "x", 0);
        error("the greatest position", repeated("0abcdefghijkl;", 7) + repeated("*abcde;", 7) + "*zz", 150);
        error("behind good items", "*b;*b;3bb;2", 11);
    }

    // ---- Promise 5

    private static void cutNumbers() {
        says("Promise 5, cut: Adds a stamp whose letters are a part of a word. Undoable.");
        test("undoable", () -> undoable("cut(0, 1, 2)", Checks::richWithRoom, x -> x.cut(0, 1, 2), 3));
        test("the letters", () -> {
            RubberStamps x = of("0banana;");
            x.cut(0, 1, 5);
            dueText("stamp 0", stampText(x, 0), "anana");
        });
        test("the words have it at once", () -> {
            RubberStamps x = of("0banana;");
            x.cut(0, 1, 5);
            x.cut(0, 0, 1);
            dueText("plan", planText(x, 0), "1 0");
        });

        says("Promise 5, cut: Returns the number of the stamp.");
        test("the first one", () -> due("cut(0, 0, 1)", of("0a;").cut(0, 0, 1), 0));
        test("the tenth one", () -> due("cut(0, 0, 1)", of(TEN.substring(3) + "0a;").cut(0, 0, 1), 9));

        says("Promise 5, cut: Throws IndexOutOfBoundsException if there is no such word.");
        test("-1", () -> refused("cut(-1, 0, 1)", INDEX, Checks::rich, x -> x.cut(-1, 0, 1)));
        test("one above the last word", () -> refused("cut(3, 0, 1)", INDEX, Checks::rich, x -> x.cut(3, 0, 1)));
        test("the last word is taken", () -> due("cut(2, 2, 1)", rich().cut(2, 2, 1), 3));
        test("the greatest int", () -> refused("cut(MAX, 0, 1)", INDEX, Checks::rich, x -> x.cut(MAX, 0, 1)));
        test("the least int", () -> refused("cut(MIN, 0, 1)", INDEX, Checks::rich, x -> x.cut(MIN, 0, 1)));

        says("Promise 5, cut: Throws IllegalStateException if there are 10 stamps.");
        test("10 stamps", () -> refused("cut(0, 0, 5)", STATE, Checks::full, x -> x.cut(0, 0, 5)));
        test("10 stamps, all of them worn out", () -> refused("cut(0, 0, 1)", STATE, () -> {
            RubberStamps x = of(TEN + "0abcdefghij;", 1, 5);
            x.write(0);
            return x;
        }, x -> x.cut(0, 0, 1)));
        test("9 stamps", () -> {
            RubberStamps x = full();
            x.remove(4);
            due("cut(6, 11, 1)", x.cut(6, 11, 1), 9);
        });
        test("no word comes before a part and 10 stamps", () ->
            refused("cut(7, 12, 6)", INDEX, Checks::full, x -> x.cut(7, 12, 6)));
        test("no word comes before 10 stamps", () -> refused("cut(-1, 0, 1)", INDEX, Checks::full, x -> x.cut(-1, 0, 1)));
        test("no word comes before a part", () -> refused("cut(3, -1, 0)", INDEX, Checks::rich, x -> x.cut(3, -1, 0)));
        test("from comes before 10 stamps", () -> refused("cut(0, 12, 1)", ARGUMENT, Checks::full, x -> x.cut(0, 12, 1)));
        test("length comes before 10 stamps", () -> refused("cut(0, 0, 6)", ARGUMENT, Checks::full, x -> x.cut(0, 0, 6)));
        test("reaching beyond the word comes before 10 stamps", () ->
            refused("cut(0, 8, 5)", ARGUMENT, Checks::full, x -> x.cut(0, 8, 5)));
    }

    private static void badPart(int from, int length) {
        String what = "cut(0, " + from + ", " + length + ")";
        test(what, () -> refused(what, ARGUMENT, Checks::rich, x -> x.cut(0, from, length)));
    }

    private static void goodPart(String word, int from, int length, String letters) {
        test("cut(0, " + from + ", " + length + ") of " + word, () -> {
            RubberStamps x = of("0" + word + ";");
            due("cut", x.cut(0, from, length), 0);
            dueText("stamp 0", stampText(x, 0), letters);
        });
    }

    private static void cutParts() {
        // The word 0 of a rich set is "noun".
        says("Promise 5, cut: Throws IllegalArgumentException if from is not an index of a letter.");
        goodPart("noun", 0, 1, "n");
        goodPart("noun", 3, 1, "n");
        goodPart("abcdefghijkl", 11, 1, "l");
        badPart(-1, 1);
        badPart(-1, 2);
        badPart(4, 1);
        badPart(MAX, 1);
        badPart(MAX, 5);
        badPart(MIN, 1);
        test("an index of the longest word, but not of this one", () ->
            refused("cut(0, 2, 1)", ARGUMENT, () -> of("0ab;0abcdefghijkl;"), x -> x.cut(0, 2, 1)));

        says("Promise 5, cut: Throws IllegalArgumentException if length is out of range (1 to 5).");
        goodPart("abcdefghijkl", 0, 5, "abcde");
        goodPart("abcdefghijkl", 7, 5, "hijkl");
        badPart(0, 0);
        badPart(0, -1);
        badPart(0, MIN);
        badPart(0, 6);
        test("6 letters that the word has", () ->
            refused("cut(0, 0, 6)", ARGUMENT, () -> of("0abcdefghijkl;"), x -> x.cut(0, 0, 6)));
        test("12 letters that the word has", () ->
            refused("cut(0, 0, 12)", ARGUMENT, () -> of("0abcdefghijkl;"), x -> x.cut(0, 0, 12)));

        says("Promise 5, cut: Throws IllegalArgumentException if length reaches beyond the word.");
        goodPart("noun", 0, 4, "noun");
        goodPart("noun", 1, 3, "oun");
        goodPart("noun", 2, 2, "un");
        badPart(0, 5);
        badPart(1, 4);
        badPart(3, 2);
        badPart(1, MAX);
        badPart(3, MAX);
        test("beyond 12 letters", () ->
            refused("cut(0, 8, 5)", ARGUMENT, () -> of("0abcdefghijkl;"), x -> x.cut(0, 8, 5)));
    }

    // ---- Promises 6 and 7

    private static void remove() {
        says("Promise 6, remove: Removes a stamp; the numbers of those behind it decrease by 1. Undoable.");
        Maker three = () -> {
            RubberStamps x = of("*ab;*c;*def;2c;1def;0ab;");
            x.write(0);
            write(x, 1, 2);
            return x;
        };
        test("undoable", () -> undoable("remove(0)", Checks::richWithRoom, x -> x.remove(0), 2));
        test("the first one", () -> {
            RubberStamps x = three.make();
            due("remove(0)", x.remove(0), 2);
            dueText("stamps", stampText(x, 0) + " " + stampText(x, 1), "c def");
            dueStamp(x, 0, 2, 4, 1);
            dueStamp(x, 1, 1, 3, 2);
            dueText("plans", planText(x, 0) + "," + planText(x, 1) + "," + planText(x, 2), "0,1,");
            dueCounts(x, 3, 2, 0);
        });
        test("one between others", () -> {
            RubberStamps x = three.make();
            due("remove(1)", x.remove(1), 2);
            dueText("stamps", stampText(x, 0) + " " + stampText(x, 1), "ab def");
            dueStamp(x, 0, NONE, 0, 0);
            dueStamp(x, 1, 1, 3, 2);
        });
        test("the last one", () -> {
            RubberStamps x = three.make();
            due("remove(2)", x.remove(2), 2);
            dueText("stamps", stampText(x, 0) + " " + stampText(x, 1), "ab c");
            dueStamp(x, 1, 2, 4, 1);
        });
        test("the first one of 10", () -> {
            RubberStamps x = of(TEN + "3j;0a;");
            x.write(0);
            due("remove(0)", x.remove(0), 9);
            dueText("stamp 8", stampText(x, 8), "j");
            dueStamp(x, 8, 3, 4, 1);
            due("press(0, 0)", x.press(0, 0), 16);
            due("word(1, 2)", x.word(1, 2), NONE);
        });
        test("the last one of 10", () -> {
            RubberStamps x = of(TEN + "3j;");
            due("remove(9)", x.remove(9), 9);
            due("word(0, 2)", x.word(0, 2), NONE);
            dueText("stamp 8", stampText(x, 8), "i");
        });

        says("Promise 6, remove: Returns the number of stamps that are left.");
        test("0 are left", () -> due("remove(0)", of("*a;").remove(0), 0));
        test("9 are left", () -> due("remove(5)", of(TEN).remove(5), 9));

        says("Promise 6, remove: Throws IndexOutOfBoundsException if there is no such stamp.");
        test("-1", () -> refused("remove(-1)", INDEX, Checks::rich, x -> x.remove(-1)));
        test("one above the last stamp", () -> refused("remove(3)", INDEX, Checks::rich, x -> x.remove(3)));
        test("10 of 10", () -> refused("remove(10)", INDEX, Checks::full, x -> x.remove(10)));
        test("the greatest int", () -> refused("remove(MAX)", INDEX, Checks::rich, x -> x.remove(MAX)));
        test("the least int", () -> refused("remove(MIN)", INDEX, Checks::rich, x -> x.remove(MIN)));
        test("the number of the stamp that was removed last", () -> {
            RubberStamps x = of("*a;");
            x.remove(0);
            dueThrow("remove(0)", INDEX, x, () -> x.remove(0));
        });
    }

    private static void drop() {
        says("Promise 7, drop: Removes a word; the numbers of those behind it decrease by 1. Undoable.");
        Maker three = () -> of("0a;1bc;2def;*bc;");
        test("undoable", () -> undoable("drop(1)", Checks::richWithRoom, x -> x.drop(1), 2));
        test("the first one", () -> {
            RubberStamps x = three.make();
            due("drop(0)", x.drop(0), 2);
            dueText("words", wordText(x, 0) + " " + wordText(x, 1), "bc def");
            due("color 0", x.word(0, 1), 1);
            due("color 1", x.word(1, 1), 2);
            dueText("plans", planText(x, 0) + "," + planText(x, 1), "0,");
        });
        test("one between others", () -> {
            RubberStamps x = three.make();
            due("drop(1)", x.drop(1), 2);
            dueText("words", wordText(x, 0) + " " + wordText(x, 1), "a def");
            due("color 0", x.word(0, 1), 0);
            due("color 1", x.word(1, 1), 2);
        });
        test("the last one", () -> {
            RubberStamps x = three.make();
            due("drop(2)", x.drop(2), 2);
            dueText("words", wordText(x, 0) + " " + wordText(x, 1), "a bc");
        });
        test("the first one of 7", () -> {
            RubberStamps x = of(SEVEN);
            due("drop(0)", x.drop(0), 6);
            dueText("word 5", wordText(x, 5), "g");
            due("color 5", x.word(5, 1), 2);
        });
        test("the last one of 7", () -> {
            RubberStamps x = of(SEVEN);
            due("drop(6)", x.drop(6), 6);
            dueText("word 5", wordText(x, 5), "f");
            due("color 5", x.word(5, 1), 1);
        });

        says("Promise 7, drop: Returns the number of words that are left.");
        test("0 are left", () -> due("drop(0)", of("0a;").drop(0), 0));
        test("6 are left", () -> due("drop(3)", of(SEVEN).drop(3), 6));

        says("Promise 7, drop: Throws IndexOutOfBoundsException if there is no such word.");
        test("-1", () -> refused("drop(-1)", INDEX, Checks::rich, x -> x.drop(-1)));
        test("one above the last word", () -> refused("drop(3)", INDEX, Checks::rich, x -> x.drop(3)));
        test("7 of 7", () -> refused("drop(7)", INDEX, Checks::full, x -> x.drop(7)));
        test("the greatest int", () -> refused("drop(MAX)", INDEX, Checks::rich, x -> x.drop(MAX)));
        test("the least int", () -> refused("drop(MIN)", INDEX, Checks::rich, x -> x.drop(MIN)));
        test("the number of the word that was removed last", () -> {
            RubberStamps x = of("0a;");
            x.drop(0);
            dueThrow("drop(0)", INDEX, x, () -> x.drop(0));
        });
    }

    // ---- Promises 8 and 9

    private static void setColor() {
        says("Promise 8, setColor: Sets the color of a word. Undoable. Returns the previous color.");
        test("undoable", () -> undoable("setColor(1, 0)", Checks::richWithRoom, x -> x.setColor(1, 0), 2));
        test("undoable, with the color that it has", () ->
            undoable("setColor(1, 2)", Checks::richWithRoom, x -> x.setColor(1, 2), 2));
        test("from 0 to 3", () -> {
            RubberStamps x = of("0a;1a;");
            due("setColor(0, 3)", x.setColor(0, 3), 0);
            due("word(0, 1)", x.word(0, 1), 3);
            due("word(1, 1)", x.word(1, 1), 1);
        });
        test("from 3 to 0", () -> {
            RubberStamps x = of("3a;1a;");
            due("setColor(0, 0)", x.setColor(0, 0), 3);
            due("word(0, 1)", x.word(0, 1), 0);
        });
        test("the last one of 7", () -> {
            RubberStamps x = of(SEVEN);
            due("setColor(6, 3)", x.setColor(6, 3), 2);
            due("word(6, 1)", x.word(6, 1), 3);
            due("word(5, 1)", x.word(5, 1), 1);
        });

        says("Promise 8, setColor: Throws IndexOutOfBoundsException if there is no such word.");
        test("-1", () -> refused("setColor(-1, 0)", INDEX, Checks::rich, x -> x.setColor(-1, 0)));
        test("one above the last word", () -> refused("setColor(3, 0)", INDEX, Checks::rich, x -> x.setColor(3, 0)));
        test("7 of 7", () -> refused("setColor(7, 0)", INDEX, Checks::full, x -> x.setColor(7, 0)));
        test("the greatest int", () -> refused("setColor(MAX, 0)", INDEX, Checks::rich, x -> x.setColor(MAX, 0)));
        test("the least int", () -> refused("setColor(MIN, 0)", INDEX, Checks::rich, x -> x.setColor(MIN, 0)));
        test("no word comes before the color", () ->
            refused("setColor(3, 4)", INDEX, Checks::rich, x -> x.setColor(3, 4)));

        says("Promise 8, setColor: Throws IllegalArgumentException if color is out of range (0 to 3).");
        test("-1, which is NONE", () -> refused("setColor(0, -1)", ARGUMENT, Checks::rich, x -> x.setColor(0, -1)));
        test("4", () -> refused("setColor(0, 4)", ARGUMENT, Checks::rich, x -> x.setColor(0, 4)));
        test("the greatest int", () -> refused("setColor(0, MAX)", ARGUMENT, Checks::rich, x -> x.setColor(0, MAX)));
        test("the least int", () -> refused("setColor(0, MIN)", ARGUMENT, Checks::rich, x -> x.setColor(0, MIN)));
    }

    private static void limits(int limit, int load) {
        String what = "setLimits(" + limit + ", " + load + ")";
        test(what, () -> {
            RubberStamps x = new RubberStamps();
            due(what, x.setLimits(limit, load), 100);
            due("value(2)", x.value(2), limit);
            due("value(3)", x.value(3), load);
            due("setLimits(7, 7)", x.setLimits(7, 7), limit);
        });
    }

    private static void badLimits(int limit, int load) {
        String what = "setLimits(" + limit + ", " + load + ")";
        test(what, () -> refused(what, ARGUMENT, Checks::rich, x -> x.setLimits(limit, load)));
    }

    private static void setLimits() {
        says("Promise 9, setLimits: Sets limit and load. Undoable. Returns the previous limit.");
        test("undoable", () -> undoable("setLimits(1, 1)", Checks::richWithRoom, x -> x.setLimits(1, 1), 9));
        test("undoable, with those that are set", () ->
            undoable("setLimits(9, 2)", Checks::richWithRoom, x -> x.setLimits(9, 2), 9));
        limits(1, 1);
        limits(200, 20);
        limits(1, 20);
        limits(200, 1);
        limits(100, 5);

        says("Promise 9, setLimits: Throws IllegalArgumentException if limit (1 to 200) or load (1 to 20) is out of range.");
        badLimits(0, 5);
        badLimits(-1, 5);
        badLimits(201, 5);
        badLimits(MAX, 5);
        badLimits(MIN, 5);
        badLimits(50, 0);
        badLimits(50, -1);
        badLimits(50, 21);
        badLimits(50, MAX);
        badLimits(50, MIN);
        badLimits(0, 0);
        badLimits(201, 21);
    }

    private static void amountsStay() {
        says("Promise 9, setLimits: (Amounts stay.)");
        test("an amount above the new load", () -> {
            RubberStamps x = of("*a;0a;0aaa;", 100, 20);
            x.write(0);
            x.setLimits(100, 1);
            dueStamp(x, 0, 0, 19, 1);
            x.write(1);
            dueStamp(x, 0, 0, 16, 4);
            due("value(5)", x.value(5), 1);
        });
        test("an amount below the new load", () -> {
            RubberStamps x = of("*a;0a;", 100, 2);
            x.write(0);
            x.setLimits(100, 20);
            dueStamp(x, 0, 0, 1, 1);
            x.write(0);
            dueStamp(x, 0, 0, 0, 2);
            x.write(0);
            dueStamp(x, 0, 0, 19, 3);
            due("value(5)", x.value(5), 2);
        });
        test("the amount 0", () -> {
            RubberStamps x = of("*a;0a;", 100, 1);
            x.write(0);
            x.setLimits(100, 20);
            dueStamp(x, 0, 0, 0, 1);
        });
    }

    // ---- Promise 10

    private static void clean() {
        says("Promise 10, clean: Cleans a stamp: it has no ink then, and the amount 0. Undoable.");
        test("undoable, with ink", () -> undoable("clean(1)", Checks::richWithRoom, x -> x.clean(1), 1));
        test("undoable, without ink", () -> undoable("clean(2)", Checks::richWithRoom, x -> x.clean(2), 0));
        test("the wear stays", () -> {
            RubberStamps x = of("*a;*a;3aaa;");
            x.write(0);
            x.clean(0);
            dueStamp(x, 0, NONE, 0, 3);
        });

        says("Promise 10, clean: Returns 1 if it had an ink (a cleaning is counted then), otherwise 0.");
        test("the ink 3", () -> {
            RubberStamps x = of("*a;3a;");
            x.write(0);
            due("clean(0)", x.clean(0), 1);
            dueCounts(x, 1, 1, 1);
        });
        test("the ink 0", () -> {
            RubberStamps x = of("*a;0a;");
            x.write(0);
            due("clean(0)", x.clean(0), 1);
            dueCounts(x, 1, 1, 1);
        });
        test("an ink with the amount 0", () -> {
            RubberStamps x = of("*a;0a;", 100, 1);
            x.write(0);
            dueStamp(x, 0, 0, 0, 1);
            due("clean(0)", x.clean(0), 1);
            dueCounts(x, 1, 1, 1);
            dueStamp(x, 0, NONE, 0, 1);
        });
        test("no ink yet", () -> {
            RubberStamps x = of("*a;0a;");
            due("clean(0)", x.clean(0), 0);
            dueCounts(x, 0, 0, 0);
        });
        test("no ink any more", () -> {
            RubberStamps x = of("*a;0a;");
            x.write(0);
            x.clean(0);
            due("clean(0)", x.clean(0), 0);
            dueCounts(x, 1, 1, 1);
        });
        test("a cleaned stamp is inked without a cleaning, even with another color", () -> {
            RubberStamps x = of("*a;0a;1a;");
            x.write(0);
            x.clean(0);
            x.write(1);
            dueCounts(x, 2, 2, 1);
            dueStamp(x, 0, 1, 4, 2);
        });
        test("the last one of 10", () -> {
            RubberStamps x = of(TEN + "1j;1i;");
            x.write(0);
            x.write(1);
            due("clean(9)", x.clean(9), 1);
            dueStamp(x, 9, NONE, 0, 1);
            dueStamp(x, 8, 1, 4, 1);
        });

        says("Promise 10, clean: Throws IndexOutOfBoundsException if there is no such stamp.");
        test("-1", () -> refused("clean(-1)", INDEX, Checks::rich, x -> x.clean(-1)));
        test("one above the last stamp", () -> refused("clean(3)", INDEX, Checks::rich, x -> x.clean(3)));
        test("10 of 10", () -> refused("clean(10)", INDEX, Checks::full, x -> x.clean(10)));
        test("the greatest int", () -> refused("clean(MAX)", INDEX, Checks::rich, x -> x.clean(MAX)));
        test("the least int", () -> refused("clean(MIN)", INDEX, Checks::rich, x -> x.clean(MIN)));
    }
}
