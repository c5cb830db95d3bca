/** A test for each boundary case that the document names about plans, and in promises 11 to 16. */
public final class BoundaryAskTest extends Checks {
    /** 10 stamps, of which the last one alone prints an "o". */
    private static final String ONES = "*a;*b;*c;*d;*e;*f;*g;*h;*i;*o;";

    public static void main(String[] args) {
        plans();
        fewestPresses();
        lowerNumber();
        straightFirst();
        wornOutLeftOut();
        usesDoNotMatter();
        value();
        valueRanges();
        stamp();
        stampRanges();
        print();
        word();
        wordPresses();
        wordNow();
        wordRanges();
        letter();
        press();
        end("boundaries of what is asked");
    }

    // ---- Terms: plans

    private static void plans() {
        says("Terms, Plans: A plan is a sequence of presses, each straight or turned, whose prints make up the word,"
            + " one after the other.");
        test("one press for the whole word", () -> duePlan("*abcde;0abcde;", "0"));
        test("one letter", () -> duePlan("*a;0a;", "0"));
        test("12 presses", () -> duePlan("*a;0aaaaaaaaaaaa;", "0 0 0 0 0 0 0 0 0 0 0 0"));
        test("3 presses for 12 letters", () -> duePlan("*abcde;*kl;*fghij;0abcdefghijkl;", "0 2 1"));
        test("one straight, one turned", () -> duePlan("*un;*x;0unx;", "0 1"));
        test("a stamp that is longer than the word", () -> duePlan("*ab;0a;", ""));
        test("a stamp that is longer than the rest of the word", () -> duePlan("*ab;0aba;", ""));
        test("a stamp whose beginning is the end of the word", () -> duePlan("*ab;*bc;0ab;", "0"));
        test("prints do not overlap", () -> duePlan("*ab;*bc;0abc;", ""));
        test("prints leave nothing out between them", () -> duePlan("*a;*c;0abc;", ""));
        test("prints leave nothing out at the end", () -> duePlan("*ab;0abc;", ""));
        test("prints leave nothing out at the beginning", () -> duePlan("*bc;0abc;", ""));
        test("no stamps", () -> duePlan("0a;", ""));
        test("only the last letter has no stamp", () -> duePlan("*a;0aaaaaaaaaaab;", ""));
        test("only the first letter has no stamp", () -> duePlan("*a;0baaaaaaaaaaa;", ""));
        test("the 10th stamp, turned", () -> duePlan("*a;*c;*e;*f;*g;*h;*i;*j;*k;*u;0n;", "9'"));
    }

    private static void fewestPresses() {
        says("Terms, Plans: The best plan is one with the fewest presses.");
        test("a later stamp that saves a press", () -> duePlan("*a;*b;*ab;0ab;", "2"));
        test("the longest print first is not the best", () ->
            duePlan("*abcde;*abcd;*efghi;0abcdefghi;*f;*ghi;", "1 2"));
        test("the longest print first leads nowhere", () -> duePlan("*abc;*ab;*cd;0abcd;", "1 2"));
        test("the shortest print first is the best", () -> duePlan("*a;*aab;*abbbb;0aabbbb;*bbb;", "0 2"));
        test("11 presses for 12 letters", () -> duePlan("*a;*b;*ab;0aaaaaaaaaaab;", "0 0 0 0 0 0 0 0 0 0 2"));
        test("a turned press that saves one", () -> duePlan("*n;*o;*ou;0no;", "2'"));
    }

    private static void lowerNumber() {
        says("Terms, Plans: of several, at the first press in which they differ, the one with the stamp with the lower"
            + " number.");
        test("two equal stamps", () -> duePlan("*ab;*ab;0ab;", "0"));
        test("two equal stamps, the last ones of 10", () -> duePlan("*b;*b;*b;*b;*b;*b;*b;*b;*a;*a;0a;", "8"));
        test("at the first press, however the next ones are", () -> duePlan("*ab;*a;*bcd;*cd;0abcd;", "0 3"));
        test("at the first press, the shorter print", () -> duePlan("*a;*ab;*cd;*bcd;0abcd;", "0 3"));
        test("at the second press", () -> duePlan("*x;*cd;*c;*d;*de;*e;0xcde;", "0 1 5"));
        test("at the last press", () -> duePlan("*b;*a;*a;0baa;", "0 1 1"));
        test("turned, but of a lower number", () -> duePlan("*u;*n;0n;", "0'"));
        test("straight, and of a lower number", () -> duePlan("*n;*u;0n;", "0"));
        test("turned, at the last press", () -> duePlan("*a;*u;*n;0an;", "0 1'"));
    }

    private static void straightFirst() {
        says("Terms, Plans: for the same stamp the one that is pressed straight. (For a stamp that prints the same both"
            + " ways, only the straight press counts.)");
        for (String same : new String[] {"o", "l", "s", "x", "z", "oxo", "nu", "un", "pd", "bq", "mw", "slxls", "nounx"}) {
            boolean both = !same.equals("nounx");
            test("the stamp " + same, () -> {
                RubberStamps x = of("*" + same + ";0" + same + ";");
                due("stamp(0, 4)", x.stamp(0, 4), 1);
                due("whether it prints the same both ways", printText(x, 0, true).equals(same) ? 1 : 0, both ? 1 : 0);
                dueText("plan", planText(x, 0), "0");
            });
        }
        test("at each press", () -> duePlan("*nu;0nununu;", "0 0 0"));
        test("as the 10th stamp", () -> duePlan(ONES + "0oo;", "9 9"));
    }

    private static void wornOutLeftOut() {
        says("Terms, Plans: Worn out stamps are left out.");
        test("a stamp whose wear is one below the limit is not", () -> {
            RubberStamps x = of("*ab;*a;*b;0ab;", 2, 5);
            x.write(0);
            dueText("plan", planText(x, 0), "0");
        });
        test("a stamp whose wear is the limit is", () -> {
            RubberStamps x = of("*ab;*a;*b;0ab;", 1, 5);
            x.write(0);
            dueText("plan", planText(x, 0), "1 2");
        });
        test("a stamp whose wear is above a lowered limit is", () -> {
            RubberStamps x = of("*ab;*a;*b;0abab;0ab;");
            x.write(0);
            x.setLimits(1, 5);
            dueText("plan", planText(x, 1), "1 2");
        });
        test("turned, too", () -> {
            RubberStamps x = of("*n;*u;0n;0u;", 1, 5);
            x.write(0);
            dueText("plan of u", planText(x, 1), "1");
            dueText("plan of n", planText(x, 0), "1'");
        });
        test("all stamps are worn out", () -> {
            RubberStamps x = of("*a;0a;", 1, 5);
            x.write(0);
            due("word(0, 2)", x.word(0, 2), NONE);
        });
        test("a raised limit brings them back", () -> {
            RubberStamps x = of("*ab;*a;*b;0ab;", 1, 5);
            x.write(0);
            x.setLimits(2, 5);
            dueText("plan", planText(x, 0), "0");
        });
    }

    private static void usesDoNotMatter() {
        says("Terms, Plans: how often a plan uses a stamp does not matter for it.");
        test("12 times with the limit 1", () -> {
            RubberStamps x = of("*a;0aaaaaaaaaaaa;", 1, 5);
            due("word(0, 2)", x.word(0, 2), 12);
            due("word(0, 3)", x.word(0, 3), 0);
            due("value(8)", x.value(8), 1);
        });
        test("a plan that would be possible is no better", () ->
            dueText("plan", planText(of("*ab;*a;*b;0abab;", 1, 5), 0), "0 0"));
    }

    // ---- Promise 11

    private static void value() {
        says("Promise 11, value: 0 the stamps");
        test("none", () -> due("value(0)", of("0a;").value(0), 0));
        test("10", () -> due("value(0)", full().value(0), 10));
        test("worn out ones are stamps, too", () -> {
            RubberStamps x = of("*a;*b;0ab;", 1, 5);
            x.write(0);
            due("value(0)", x.value(0), 2);
        });
        says("Promise 11, value: 1 the words");
        test("none", () -> due("value(1)", of("*a;").value(1), 0));
        test("7", () -> due("value(1)", full().value(1), 7));
        says("Promise 11, value: 2 the limit, 3 the load");
        test("the least", () -> {
            RubberStamps x = of("", 1, 1);
            due("value(2)", x.value(2), 1);
            due("value(3)", x.value(3), 1);
        });
        test("the greatest", () -> {
            RubberStamps x = of("", 200, 20);
            due("value(2)", x.value(2), 200);
            due("value(3)", x.value(3), 20);
        });
        says("Promise 11, value: 4 the presses so far, 5 the inkings so far, 6 the cleanings so far");
        test("none yet", () -> dueCounts(of("*a;0a;"), 0, 0, 0));
        test("each press inked and cleaned, but for the first", () -> {
            RubberStamps x = of("*a;0a;1a;");
            for (int i = 0; i < 30; i++) {
                x.write(i % 2);
            }
            dueCounts(x, 30, 30, 29);
        });
        test("more presses than one stamp has", () -> {
            RubberStamps x = of("*aaaaa;*aaaa;*aaa;*aa;*a;0aaaaaaaaaaaa;");
            write(x, 0, 33);
            // 66 presses of the stamp 0, 33 of the stamp 3.
            dueCounts(x, 99, 14 + 7, 0);
        });
        test("they stay when the stamp is removed", () -> {
            RubberStamps x = of("*a;0a;1a;");
            x.writeAll();
            x.remove(0);
            dueCounts(x, 2, 2, 1);
        });
        test("they stay when the word is dropped", () -> {
            RubberStamps x = of("*a;0a;1a;");
            x.writeAll();
            x.drop(0);
            x.drop(0);
            dueCounts(x, 2, 2, 1);
        });
    }

    private static void valueRanges() {
        says("Promise 11, value: 7 the stamps that are worn out");
        test("none of none", () -> due("value(7)", new RubberStamps().value(7), 0));
        test("none of 10", () -> due("value(7)", of(TEN, 1, 5).value(7), 0));
        test("all 10", () -> {
            RubberStamps x = of(TEN + "0abcdefghij;", 1, 5);
            x.write(0);
            due("value(7)", x.value(7), 10);
        });
        test("all 9 that are left of 10", () -> {
            RubberStamps x = of(TEN + "0abcdefghij;", 1, 5);
            x.write(0);
            x.remove(0);
            due("value(7)", x.value(7), 9);
        });
        test("none is left of one", () -> {
            RubberStamps x = of("*a;0a;", 1, 5);
            x.write(0);
            x.remove(0);
            due("value(7)", x.value(7), 0);
        });
        test("all but one", () -> {
            RubberStamps x = of(TEN + "0abcdefghi;", 1, 5);
            x.write(0);
            due("value(7)", x.value(7), 9);
        });

        says("Promise 11, value: 8 the words that have a plan");
        test("none of none", () -> due("value(8)", of("*a;").value(8), 0));
        test("none of 7", () -> due("value(8)", of("*x;" + SEVEN).value(8), 0));
        test("all 7", () -> due("value(8)", of(TEN + SEVEN).value(8), 7));
        test("all but the last", () -> due("value(8)", of("*a;*b;*c;*d;*e;*f;" + SEVEN).value(8), 6));
        test("a word with a plan that is not possible", () -> due("value(8)", of("*a;0aa;", 1, 5).value(8), 1));
        test("a word whose stamp is worn out", () -> {
            RubberStamps x = of("*a;0a;", 1, 5);
            x.write(0);
            due("value(8)", x.value(8), 0);
        });

        says("Promise 11, value: Throws IllegalArgumentException if what is out of range (0 to 8).");
        test("0 is taken", () -> asked("value(0)", Checks::rich, x -> x.value(0), 3));
        test("8 is taken", () -> asked("value(8)", Checks::rich, x -> x.value(8), 2));
        test("-1", () -> refused("value(-1)", ARGUMENT, Checks::rich, x -> x.value(-1)));
        test("9", () -> refused("value(9)", ARGUMENT, Checks::rich, x -> x.value(9)));
        test("the greatest int", () -> refused("value(MAX)", ARGUMENT, Checks::rich, x -> x.value(MAX)));
        test("the least int", () -> refused("value(MIN)", ARGUMENT, Checks::rich, x -> x.value(MIN)));
    }

    // ---- Promises 12 and 13

    private static void stamp() {
        says("Promise 12, stamp: 0 the number of its letters");
        test("1", () -> due("stamp(0, 0)", of("*z;").stamp(0, 0), 1));
        test("5", () -> due("stamp(0, 0)", of("*abcde;").stamp(0, 0), 5));
        says("Promise 12, stamp: 1 its ink (NONE for none)");
        test("none", () -> due("stamp(0, 1)", of("*a;").stamp(0, 1), -1));
        test("the color 0", () -> {
            RubberStamps x = of("*a;0a;");
            x.write(0);
            due("stamp(0, 1)", x.stamp(0, 1), 0);
        });
        test("the color 3", () -> {
            RubberStamps x = of("*a;3a;");
            x.write(0);
            due("stamp(0, 1)", x.stamp(0, 1), 3);
        });
        test("none behind clean()", () -> {
            RubberStamps x = of("*a;3a;");
            x.write(0);
            x.clean(0);
            due("stamp(0, 1)", x.stamp(0, 1), NONE);
        });
        says("Promise 12, stamp: 2 its amount");
        test("0 without ink", () -> due("stamp(0, 2)", of("*a;").stamp(0, 2), 0));
        test("the greatest, 19", () -> {
            RubberStamps x = of("*a;0a;", 100, 20);
            x.write(0);
            due("stamp(0, 2)", x.stamp(0, 2), 19);
        });
        test("0 with ink", () -> {
            RubberStamps x = of("*a;0a;", 100, 1);
            x.write(0);
            due("stamp(0, 2)", x.stamp(0, 2), 0);
        });
        says("Promise 12, stamp: 3 its wear");
        test("0", () -> due("stamp(0, 3)", of("*a;").stamp(0, 3), 0));
        test("the greatest, 200", () -> {
            RubberStamps x = of("*a;0aaaaaaaaaa;", 200, 20);
            write(x, 0, 20);
            due("stamp(0, 3)", x.stamp(0, 3), 200);
        });
        says("Promise 12, stamp: 4 1 if it can be pressed turned, otherwise 0");
        test("each letter can be turned", () -> due("stamp(0, 4)", of("*bdlmn;").stamp(0, 4), 1));
        test("all but the first", () -> due("stamp(0, 4)", of("*adlmn;").stamp(0, 4), 0));
        test("all but the last", () -> due("stamp(0, 4)", of("*bdlma;").stamp(0, 4), 0));
        test("worn out, it still can", () -> {
            RubberStamps x = of("*n;0n;", 1, 5);
            x.write(0);
            due("stamp(0, 4)", x.stamp(0, 4), 1);
        });
        says("Promise 12, stamp: 5 1 if it is worn out, otherwise 0");
        test("one below the limit", () -> {
            RubberStamps x = of("*a;0a;", 2, 5);
            x.write(0);
            due("stamp(0, 5)", x.stamp(0, 5), 0);
        });
        test("at the limit", () -> {
            RubberStamps x = of("*a;0a;", 2, 5);
            write(x, 0, 2);
            due("stamp(0, 5)", x.stamp(0, 5), 1);
        });
    }

    private static void stampRanges() {
        says("Promise 12, stamp: Throws IndexOutOfBoundsException if there is no such stamp.");
        test("the last stamp is taken", () -> asked("stamp(2, 0)", Checks::rich, x -> x.stamp(2, 0), 3));
        test("-1", () -> refused("stamp(-1, 0)", INDEX, Checks::rich, x -> x.stamp(-1, 0)));
        test("one above the last stamp", () -> refused("stamp(3, 0)", INDEX, Checks::rich, x -> x.stamp(3, 0)));
        test("10 of 10", () -> refused("stamp(10, 0)", INDEX, Checks::full, x -> x.stamp(10, 0)));
        test("the greatest int", () -> refused("stamp(MAX, 0)", INDEX, Checks::rich, x -> x.stamp(MAX, 0)));
        test("the least int", () -> refused("stamp(MIN, 0)", INDEX, Checks::rich, x -> x.stamp(MIN, 0)));
        test("no stamp comes before what", () -> refused("stamp(3, 6)", INDEX, Checks::rich, x -> x.stamp(3, 6)));

        says("Promise 12, stamp: Throws IllegalArgumentException if what is out of range (0 to 5).");
        test("5 is taken", () -> asked("stamp(0, 5)", Checks::rich, x -> x.stamp(0, 5), 0));
        test("-1", () -> refused("stamp(0, -1)", ARGUMENT, Checks::rich, x -> x.stamp(0, -1)));
        test("6", () -> refused("stamp(0, 6)", ARGUMENT, Checks::rich, x -> x.stamp(0, 6)));
        test("the greatest int", () -> refused("stamp(0, MAX)", ARGUMENT, Checks::rich, x -> x.stamp(0, MAX)));
        test("the least int", () -> refused("stamp(0, MIN)", ARGUMENT, Checks::rich, x -> x.stamp(0, MIN)));
    }

    private static void badPrint(int stamp, int index, boolean turned) {
        String what = "print(" + stamp + ", " + index + ", " + turned + ")";
        test(what, () -> refused(what, INDEX, Checks::rich, x -> x.print(stamp, index, turned)));
    }

    private static void print() {
        says("Promise 13, print: Returns the letter, 0 for \"a\" to 25.");
        test("a", () -> due("print(0, 0, false)", of("*a;").print(0, 0, false), 0));
        test("z", () -> due("print(0, 0, false)", of("*z;").print(0, 0, false), 25));
        test("z, turned", () -> due("print(0, 0, true)", of("*z;").print(0, 0, true), 25));
        test("b, the least letter turned", () -> due("print(0, 0, true)", of("*q;").print(0, 0, true), 1));

        says("Promise 13, print: index of the letter in the print, from 0");
        test("the first one, straight", () -> due("print(0, 0, false)", of("*bdlmn;").print(0, 0, false), 'b' - 'a'));
        test("the fifth one, straight", () -> due("print(0, 4, false)", of("*bdlmn;").print(0, 4, false), 'n' - 'a'));
        test("the first one, turned", () -> due("print(0, 0, true)", of("*bdlmn;").print(0, 0, true), 'u' - 'a'));
        test("the fifth one, turned", () -> due("print(0, 4, true)", of("*bdlmn;").print(0, 4, true), 'q' - 'a'));

        test("a stamp that is worn out still has its prints", () -> {
            RubberStamps x = of("*bdlmn;0bdlmn;", 1, 5);
            x.write(0);
            due("stamp(0, 5)", x.stamp(0, 5), 1);
            dueText("straight", printText(x, 0, false), "bdlmn");
            dueText("turned", printText(x, 0, true), "uwlpq");
        });

        says("Promise 13, print: NONE if it cannot be pressed turned.");
        test("the letter itself can't be turned", () -> asked("print(0, 0, true)", () -> of("*ab;"), x -> x.print(0, 0, true), NONE));
        test("another letter can't be turned", () -> asked("print(0, 2, true)", () -> of("*bao;"), x -> x.print(0, 2, true), NONE));

        // A rich set has the stamps "no", "u" and "xyz", the last of which can't be turned.
        says("Promise 13, print: Throws IndexOutOfBoundsException if there is no such stamp, or it has not so many letters.");
        badPrint(3, 0, false);
        badPrint(3, 0, true);
        badPrint(-1, 0, false);
        badPrint(-1, 0, true);
        badPrint(MAX, 0, false);
        badPrint(MIN, 0, true);
        badPrint(0, 2, false);
        badPrint(0, 2, true);
        badPrint(0, -1, false);
        badPrint(0, -1, true);
        badPrint(1, 1, false);
        badPrint(2, 3, false);
        badPrint(2, 3, true);
        badPrint(2, -1, true);
        badPrint(0, MAX, false);
        badPrint(0, MAX, true);
        badPrint(0, MIN, false);
        badPrint(0, MIN, true);
        test("5 of 5 letters", () -> refused("print(9, 5, false)", INDEX, Checks::full, x -> x.print(9, 5, false)));
        test("10 of 10 stamps", () -> refused("print(10, 0, false)", INDEX, Checks::full, x -> x.print(10, 0, false)));
    }

    // ---- Promise 14

    private static void word() {
        says("Promise 14, word: 0 the number of its letters");
        test("1", () -> due("word(0, 0)", of("0a;").word(0, 0), 1));
        test("12", () -> due("word(6, 0)", full().word(6, 0), 12));
        says("Promise 14, word: 1 its color");
        test("0", () -> due("word(0, 1)", full().word(0, 1), 0));
        test("3", () -> due("word(3, 1)", full().word(3, 1), 3));
    }

    private static void wordPresses() {
        says("Promise 14, word: 2 the presses of its best plan (NONE if there is no plan)");
        test("1", () -> due("word(0, 2)", of("*abcde;0abcde;").word(0, 2), 1));
        test("12", () -> due("word(0, 2)", of("*a;0aaaaaaaaaaaa;").word(0, 2), 12));
        test("none without stamps", () -> due("word(0, 2)", of("0a;").word(0, 2), NONE));
        test("none with a full set", () -> due("word(0, 2)", full().word(0, 2), NONE));
        test("with a plan that is not possible", () -> due("word(0, 2)", of("*a;0aa;", 1, 5).word(0, 2), 2));
        test("none when the stamp is worn out", () -> {
            RubberStamps x = of("*a;0a;", 1, 5);
            x.write(0);
            due("word(0, 2)", x.word(0, 2), NONE);
        });
    }

    private static void dueNow(RubberStamps x, int word, int possible, int inkings, int cleanings) {
        due("word(" + word + ", 3)", x.word(word, 3), possible);
        due("word(" + word + ", 4)", x.word(word, 4), inkings);
        due("word(" + word + ", 5)", x.word(word, 5), cleanings);
    }

    private static void wordNow() {
        says("Promise 14, word: 3 1 if it can be written now, otherwise 0, 4 the inkings that writing it now, press by"
            + " press, would need, 5 the cleanings that it would need (NONE for 4 and 5 if it cannot be written)");
        test("no plan", () -> dueNow(of("*a;0b;"), 0, 0, NONE, NONE));
        test("a plan up to the limit", () -> dueNow(of("*a;0aaa;", 3, 5), 0, 1, 1, 0));
        test("a plan above the limit", () -> dueNow(of("*a;0aaaa;", 3, 5), 0, 0, NONE, NONE));
        test("up to the limit with the wear that is there", () -> {
            RubberStamps x = of("*a;0a;0aaa;", 4, 5);
            x.write(0);
            dueNow(x, 1, 1, 0, 0);
        });
        test("above the limit with the wear that is there", () -> {
            RubberStamps x = of("*a;0a;0aaa;", 3, 5);
            x.write(0);
            dueNow(x, 1, 0, NONE, NONE);
        });
        test("no inking: the ink is there, and the amount just enough", () -> {
            RubberStamps x = of("*a;0a;0aaaa;");
            x.write(0);
            dueNow(x, 1, 1, 0, 0);
        });
        test("one inking: the amount is one too small", () -> {
            RubberStamps x = of("*a;0aa;0aaaa;");
            x.write(0);
            dueNow(x, 1, 1, 1, 0);
        });
        test("12 inkings with the load 1", () -> dueNow(of("*a;0aaaaaaaaaaaa;", 100, 1), 0, 1, 12, 0));
        test("1 inking with the load 20", () -> dueNow(of("*a;0aaaaaaaaaaaa;", 100, 20), 0, 1, 1, 0));
        test("the first press of another ink is a cleaning, the next ones are not", () -> {
            RubberStamps x = of("*a;1a;0aaaaaaaaaaaa;", 100, 1);
            x.write(0);
            dueNow(x, 1, 1, 12, 1);
        });
        test("10 cleanings", () -> {
            RubberStamps x = of(TEN + "1abcdefghij;0abcdefghij;");
            x.write(0);
            dueNow(x, 0, 1, 0, 0);
            dueNow(x, 1, 1, 10, 10);
        });
        test("the cleanings so far are not among them", () -> {
            RubberStamps x = of("*a;0a;1a;");
            x.writeAll();
            x.writeAll();
            dueNow(x, 0, 1, 1, 1);
            dueNow(x, 1, 1, 0, 0);
        });
        for (int what = 2; what <= 5; what++) {
            int w = what;
            int[] due = {3, 1, 3, 1};
            Maker maker = () -> {
                RubberStamps x = of("*n;*o;0non;1o;", 100, 1);
                x.write(1);
                return x;
            };
            test("asking for " + w + " changes nothing", () ->
                asked("word(0, " + w + ")", maker, x -> x.word(0, w), due[w - 2]));
        }
    }

    private static void wordRanges() {
        says("Promise 14, word: Throws IndexOutOfBoundsException if there is no such word.");
        test("the last word is taken", () -> asked("word(2, 0)", Checks::rich, x -> x.word(2, 0), 3));
        test("-1", () -> refused("word(-1, 0)", INDEX, Checks::rich, x -> x.word(-1, 0)));
        test("one above the last word", () -> refused("word(3, 0)", INDEX, Checks::rich, x -> x.word(3, 0)));
        test("7 of 7", () -> refused("word(7, 0)", INDEX, Checks::full, x -> x.word(7, 0)));
        test("the greatest int", () -> refused("word(MAX, 0)", INDEX, Checks::rich, x -> x.word(MAX, 0)));
        test("the least int", () -> refused("word(MIN, 0)", INDEX, Checks::rich, x -> x.word(MIN, 0)));
        test("no word comes before what", () -> refused("word(3, 6)", INDEX, Checks::rich, x -> x.word(3, 6)));

        says("Promise 14, word: Throws IllegalArgumentException if what is out of range (0 to 5).");
        test("0 is taken", () -> asked("word(0, 0)", Checks::rich, x -> x.word(0, 0), 4));
        test("5 is taken", () -> asked("word(1, 5)", Checks::rich, x -> x.word(1, 5), NONE));
        test("-1", () -> refused("word(0, -1)", ARGUMENT, Checks::rich, x -> x.word(0, -1)));
        test("6", () -> refused("word(0, 6)", ARGUMENT, Checks::rich, x -> x.word(0, 6)));
        test("the greatest int", () -> refused("word(0, MAX)", ARGUMENT, Checks::rich, x -> x.word(0, MAX)));
        test("the least int", () -> refused("word(0, MIN)", ARGUMENT, Checks::rich, x -> x.word(0, MIN)));
    }

    // ---- Promises 15 and 16

    private static void letter() {
        says("Promise 15, letter: Returns the letter, 0 to 25.");
        test("a", () -> due("letter(0, 0)", of("0a;").letter(0, 0), 0));
        test("z", () -> due("letter(0, 0)", of("0z;").letter(0, 0), 25));
        says("Promise 15, letter: index of the letter, from 0");
        test("the first one", () -> asked("letter(0, 0)", Checks::rich, x -> x.letter(0, 0), 'n' - 'a'));
        test("the last one of a short word", () -> asked("letter(1, 2)", Checks::rich, x -> x.letter(1, 2), 't' - 'a'));
        test("the 12th one of the 7th word", () -> asked("letter(6, 11)", Checks::full, x -> x.letter(6, 11), 'l' - 'a'));

        says("Promise 15, letter: Throws IndexOutOfBoundsException if there is no such word or letter.");
        test("the word -1", () -> refused("letter(-1, 0)", INDEX, Checks::rich, x -> x.letter(-1, 0)));
        test("the word above the last one", () -> refused("letter(3, 0)", INDEX, Checks::rich, x -> x.letter(3, 0)));
        test("the word 7 of 7", () -> refused("letter(7, 0)", INDEX, Checks::full, x -> x.letter(7, 0)));
        test("the greatest int as word", () -> refused("letter(MAX, 0)", INDEX, Checks::rich, x -> x.letter(MAX, 0)));
        test("the least int as word", () -> refused("letter(MIN, 0)", INDEX, Checks::rich, x -> x.letter(MIN, 0)));
        test("the letter -1", () -> refused("letter(0, -1)", INDEX, Checks::rich, x -> x.letter(0, -1)));
        test("the letter -1 of the second word", () -> refused("letter(1, -1)", INDEX, Checks::rich, x -> x.letter(1, -1)));
        test("the letter above the last one", () -> refused("letter(0, 4)", INDEX, Checks::rich, x -> x.letter(0, 4)));
        test("the letter 12 of 12", () -> refused("letter(0, 12)", INDEX, Checks::full, x -> x.letter(0, 12)));
        test("the greatest int as letter", () -> refused("letter(0, MAX)", INDEX, Checks::rich, x -> x.letter(0, MAX)));
        test("the least int as letter", () -> refused("letter(0, MIN)", INDEX, Checks::rich, x -> x.letter(0, MIN)));
    }

    private static void press() {
        says("Promise 16, press: Returns 2 * (number of the stamp), plus 1 if it is pressed turned.");
        test("the least one: 0", () -> due("press(0, 0)", of("*a;0a;").press(0, 0), 0));
        test("1", () -> due("press(0, 0)", of("*u;0n;").press(0, 0), 1));
        test("18", () -> due("press(0, 0)", of(TEN + "0j;").press(0, 0), 18));
        test("the greatest one: 19", () -> due("press(0, 0)", of("*a;*c;*e;*f;*g;*h;*i;*j;*k;*u;0n;").press(0, 0), 19));

        says("Promise 16, press: 0 for the first press, and so on");
        test("the first one", () -> asked("press(0, 0)", Checks::rich, x -> x.press(0, 0), 0));
        test("the last one", () -> asked("press(0, 2)", Checks::rich, x -> x.press(0, 2), 3));
        test("the 12th one", () -> due("press(0, 11)", of("*a;*b;0aaaaaaaaaaab;").press(0, 11), 2));

        says("Promise 16, press: Throws IndexOutOfBoundsException if there is no such word, or its best plan has no such"
            + " press (or it has no plan).");
        test("the word -1", () -> refused("press(-1, 0)", INDEX, Checks::rich, x -> x.press(-1, 0)));
        test("the word above the last one", () -> refused("press(3, 0)", INDEX, Checks::rich, x -> x.press(3, 0)));
        test("the word 7 of 7", () -> refused("press(7, 0)", INDEX, Checks::full, x -> x.press(7, 0)));
        test("the greatest int as word", () -> refused("press(MAX, 0)", INDEX, Checks::rich, x -> x.press(MAX, 0)));
        test("the least int as word", () -> refused("press(MIN, 0)", INDEX, Checks::rich, x -> x.press(MIN, 0)));
        test("the press -1", () -> refused("press(0, -1)", INDEX, Checks::rich, x -> x.press(0, -1)));
        test("the press above the last one", () -> refused("press(0, 3)", INDEX, Checks::rich, x -> x.press(0, 3)));
        test("the press 12 of 12", () ->
            refused("press(0, 12)", INDEX, () -> of("*a;0aaaaaaaaaaaa;"), x -> x.press(0, 12)));
        test("the greatest int as press", () -> refused("press(0, MAX)", INDEX, Checks::rich, x -> x.press(0, MAX)));
        test("the least int as press", () -> refused("press(0, MIN)", INDEX, Checks::rich, x -> x.press(0, MIN)));
        test("the press 0 without a plan", () -> refused("press(1, 0)", INDEX, Checks::rich, x -> x.press(1, 0)));
        test("the press -1 without a plan", () -> refused("press(1, -1)", INDEX, Checks::rich, x -> x.press(1, -1)));
        test("the press 0 without a plan, behind a word with one", () -> {
            RubberStamps x = of("*a;0a;0b;");
            x.press(0, 0);
            dueThrow("press(1, 0)", INDEX, x, () -> x.press(1, 0));
        });
        test("a press of a plan that is not possible", () -> due("press(0, 1)", of("*a;0aa;", 1, 5).press(0, 1), 0));
    }
}
