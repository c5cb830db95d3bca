/** A test for each boundary case that the document names in promises 19 to 24. */
public final class BoundaryWhatIfTest extends Checks {
    public static void main(String[] args) {
        fewestOrNone();
        fewestSmallest();
        fewestWornOut();
        needed();
        neededRanges();
        orderFewest();
        orderPossible();
        orderRanges();
        leastCleanings();
        bestCutSaves();
        bestCutFirst();
        bestCutLength();
        bestCutNone();
        bestCutRanges();
        lettersPerPress();
        askingChangesNothing();
        end("boundaries of what if");
    }

    private static void dueFewest(String what, String text, int want) {
        test(what, () -> due("fewest()", of(text).fewest(), want));
    }

    // ---- Promise 19

    private static void fewestOrNone() {
        says("Promise 19, fewest: Returns the set (bit s for the stamp s), 0 without words; NONE if there is none.");
        test("a new object", () -> due("fewest()", new RubberStamps().fewest(), 0));
        dueFewest("stamps, but no words", "*a;*b;", 0);
        test("worn out stamps, but no words", () -> {
            RubberStamps x = of("*a;0a;", 1, 5);
            x.write(0);
            x.drop(0);
            due("fewest()", x.fewest(), 0);
        });
        dueFewest("words, but no stamps", "0a;", NONE);
        dueFewest("one word without a plan", "*a;0a;1b;", NONE);
        dueFewest("only the last one of 7 has no plan", "*a;*b;*c;*d;*e;*f;" + SEVEN, NONE);
        dueFewest("the first one of 7 has no plan", "*b;*c;*d;*e;*f;*g;" + SEVEN, NONE);
        dueFewest("the stamp 0", "*a;*b;0a;", 1);
        dueFewest("the stamp 9", "*b;*b;*b;*b;*b;*b;*b;*b;*b;*a;0a;", 512);
        dueFewest("all 10", TEN + "0abcdefghij;", 1023);
        dueFewest("all but the stamp 0", TEN + "0bcdefghij;", 1022);
        dueFewest("all but the stamp 9", TEN + "0abcdefghi;", 511);
        dueFewest("seven stamps for seven words", TEN + SEVEN, 127);
    }

    private static void fewestSmallest() {
        says("Promise 19, fewest: Returns the smallest set of stamps with which each word would have a plan.");
        dueFewest("one stamp of a higher number before three of lower ones", "*a;*b;*c;*abc;0abc;", 8);
        dueFewest("two stamps of the highest numbers before three", "*a;*b;*c;*c;*c;*c;*c;*c;*ab;*bc;0abc;0ab;", 260);
        dueFewest("for all words together, not for each one alone", "*ab;*a;*b;0ab;0a;0b;", 6);
        dueFewest("with more presses than the best plans have", "*aa;*a;0aa;0a;", 2);
        dueFewest("one stamp, straight and turned", "*u;*n;0n;1u;", 1);

        says("Promise 19, fewest: of several smallest ones the one with the lowest number as a set.");
        dueFewest("the lower one of two stamps", "*ab;*ab;0ab;", 1);
        dueFewest("1 and 2 before 0 and 3", "*a;*ab;*cd;*bcd;0abcd;", 6);
        dueFewest("0 and 2 before 1 and 2", "*a;*a;*b;0ab;", 5);
        dueFewest("0 and 1 before 8 and 9", "*a;*b;*c;*c;*c;*c;*c;*c;*a;*b;0ab;", 3);
    }

    private static void fewestWornOut() {
        says("Promise 19, fewest: a set of stamps, none of them worn out.");
        test("the wear one below the limit", () -> {
            RubberStamps x = of("*ab;*a;*b;0ab;", 2, 5);
            x.write(0);
            due("fewest()", x.fewest(), 1);
        });
        test("the wear at the limit", () -> {
            RubberStamps x = of("*ab;*a;*b;0ab;", 1, 5);
            x.write(0);
            due("fewest()", x.fewest(), 6);
        });
        test("all are worn out", () -> {
            RubberStamps x = of("*a;0a;", 1, 5);
            x.write(0);
            due("fewest()", x.fewest(), NONE);
        });
        test("the last stamp is worn out", () -> {
            RubberStamps x = of("*b;*a;0a;", 1, 5);
            x.write(0);
            due("fewest()", x.fewest(), NONE);
        });
        test("how often a stamp is pressed does not matter", () -> due("fewest()", of("*a;0aa;", 1, 5).fewest(), 1));
    }

    // ---- Promise 20

    private static void dueNeeded(String what, String text, int stamp, int want) {
        test(what, () -> due("needed(" + stamp + ")", of(text).needed(stamp), want));
    }

    private static void needed() {
        says("Promise 20, needed: there are words that have a plan with all stamps that are not worn out, but none without"
            + " it. Returns the number of such words.");
        dueNeeded("no words", "*a;", 0, 0);
        dueNeeded("one word", "*a;0a;", 0, 1);
        dueNeeded("all 7 words", "*a;0a;0a;0a;0a;0a;0a;0aaaaaaaaaaaa;", 0, 7);
        dueNeeded("one of 7 words, the last one", "*b;*a;0b;0b;0b;0b;0b;0b;0a;", 1, 1);
        dueNeeded("a word that has no plan anyway", "*a;0ab;", 0, 0);
        dueNeeded("a stamp that fits no word", "*a;*b;0a;", 1, 0);
        dueNeeded("another stamp does it too", "*a;*a;0a;", 0, 0);
        dueNeeded("other stamps do it with more presses", "*ab;*a;*b;0ab;", 0, 0);
        dueNeeded("another stamp does it turned", "*n;*u;0n;", 0, 0);
        dueNeeded("the stamp 0, pressed turned", "*u;0n;", 0, 1);
        dueNeeded("the stamp 9, pressed turned", "*a;*a;*a;*a;*a;*a;*a;*a;*a;*u;0n;", 9, 1);
        dueNeeded("the stamp 9 beside its neighbours", TEN + "0j;", 9, 1);
        dueNeeded("a neighbour of the stamp 9", TEN + "0j;", 8, 0);
        test("a stamp that is worn out is not needed", () -> {
            RubberStamps x = of("*a;0a;", 1, 5);
            x.write(0);
            due("needed(0)", x.needed(0), 0);
        });
        test("a stamp whose wear is one below the limit is", () -> {
            RubberStamps x = of("*a;0a;", 2, 5);
            x.write(0);
            due("needed(0)", x.needed(0), 1);
        });
        test("a stamp beside an equal one that is worn out is", () -> {
            RubberStamps x = of("*a;*a;0a;", 1, 5);
            x.write(0);
            due("needed(0)", x.needed(0), 0);
            due("needed(1)", x.needed(1), 1);
        });
        test("a plan that is not possible is a plan", () -> due("needed(0)", of("*a;0aa;", 1, 5).needed(0), 1));
    }

    private static void neededRanges() {
        says("Promise 20, needed: Throws IndexOutOfBoundsException if there is no such stamp.");
        test("the last stamp is taken", () -> asked("needed(2)", Checks::rich, x -> x.needed(2), 0));
        test("the 10th stamp is taken", () -> asked("needed(9)", Checks::full, x -> x.needed(9), 0));
        test("-1", () -> refused("needed(-1)", INDEX, Checks::rich, x -> x.needed(-1)));
        test("one above the last stamp", () -> refused("needed(3)", INDEX, Checks::rich, x -> x.needed(3)));
        test("10 of 10", () -> refused("needed(10)", INDEX, Checks::full, x -> x.needed(10)));
        test("the greatest int", () -> refused("needed(MAX)", INDEX, Checks::rich, x -> x.needed(MAX)));
        test("the least int", () -> refused("needed(MIN)", INDEX, Checks::rich, x -> x.needed(MIN)));
    }

    // ---- Promise 21

    private static void dueWhole(RubberStamps x, int cleanings, int... order) {
        dueOrder(x, order);
        due("leastCleanings()", x.leastCleanings(), cleanings);
    }

    private static void orderFewest() {
        says("Promise 21, order: Finds the order in which all words could be written with the fewest cleanings, of several"
            + " the first one by the numbers of the words, compared one after the other.");
        test("one word", () -> dueWhole(of("*a;0a;"), 0, 0));
        test("7 words of one color", () -> dueWhole(of("*a;0a;0a;0a;0a;0a;0a;0a;"), 0, 0, 1, 2, 3, 4, 5, 6));
        test("7 words of 7 stamps", () -> dueWhole(of(TEN + SEVEN), 0, 0, 1, 2, 3, 4, 5, 6));
        test("7 words of 4 colors", () -> dueWhole(of("*a;0a;1a;2a;3a;2a;1a;0a;"), 3, 0, 6, 1, 5, 2, 4, 3));
        test("two words of two colors are as good in both orders", () -> dueWhole(of("*a;1a;0a;"), 1, 0, 1));
        test("the same color comes next", () -> dueWhole(of("*n;0n;1n;0n;1n;"), 1, 0, 2, 1, 3));
        test("the ink that is there comes first", () -> {
            RubberStamps x = of("*n;0n;1n;");
            x.write(1);
            dueWhole(x, 1, 1, 0);
        });
        test("the ink that is there comes first, though it is that of the last one of 7", () -> {
            RubberStamps x = of("*a;0a;0a;0a;0a;0a;0a;1a;");
            x.write(6);
            dueWhole(x, 1, 6, 0, 1, 2, 3, 4, 5);
        });
        test("an ink that no word has must be cleaned anyway", () -> {
            RubberStamps x = of("*n;0n;1n;");
            x.setColor(1, 2);
            x.write(1);
            x.setColor(1, 1);
            dueWhole(x, 2, 0, 1);
        });
        test("a cleaned stamp needs none", () -> {
            RubberStamps x = of("*n;0n;1n;");
            x.write(1);
            x.clean(0);
            dueWhole(x, 1, 0, 1);
        });
        test("an amount of 0 is no cleaning", () -> dueWhole(of("*a;0aaa;0aaa;", 100, 1), 0, 0, 1));
        test("two stamps, of which each has its inks", () -> dueWhole(of("*n;*o;0n;1n;2o;0no;1n;"), 2, 0, 2, 3, 1, 4));
    }

    private static void orderPossible() {
        says("Promise 21, order: (an order in which some word is not possible when it is its turn is left out).");
        test("up to the limit", () -> dueWhole(of("*a;0aa;0a;", 3, 5), 0, 0, 1));
        test("one above the limit", () ->
            refused("order(0)", STATE, () -> of("*a;0aa;0a;", 2, 5), x -> x.order(0)));
        test("only in descending order", () -> {
            RubberStamps x = of("*ab;*a;*b;0abab;0ab;", 2, 5);
            x.write(1);
            dueWhole(x, 0, 1, 0);
        });
        test("with more cleanings than another order would need, were it possible", () -> {
            RubberStamps x = of("*ab;*a;*b;0abab;1ab;1ba;", 3, 5);
            x.write(2);
            x.setColor(1, 0);
            write(x, 1, 2);
            x.setColor(1, 1);
            x.drop(2);
            dueWhole(x, 3, 1, 0);
            x.setLimits(4, 5);
            dueWhole(x, 0, 0, 1);
        });
        test("a word has another plan at its turn", () -> dueWhole(of("*ab;*a;*b;0ab;1ab;", 1, 5), 0, 0, 1));
    }

    private static void orderRanges() {
        says("Promise 21, order: Throws IndexOutOfBoundsException if there are not so many words.");
        test("the first one is taken", () -> asked("order(0)", () -> of(TEN + SEVEN), x -> x.order(0), 0));
        test("the 7th one is taken", () -> asked("order(6)", () -> of(TEN + SEVEN), x -> x.order(6), 6));
        test("7 of 7", () -> refused("order(7)", INDEX, () -> of(TEN + SEVEN), x -> x.order(7)));
        test("1 of 1", () -> refused("order(1)", INDEX, () -> of("*a;0a;"), x -> x.order(1)));
        test("0 of none", () -> refused("order(0)", INDEX, () -> of("*a;"), x -> x.order(0)));
        test("-1", () -> refused("order(-1)", INDEX, () -> of("*a;0a;"), x -> x.order(-1)));
        test("-1 of none", () -> refused("order(-1)", INDEX, () -> of("*a;"), x -> x.order(-1)));
        test("the greatest int", () -> refused("order(MAX)", INDEX, () -> of("*a;0a;"), x -> x.order(MAX)));
        test("the least int", () -> refused("order(MIN)", INDEX, () -> of("*a;0a;"), x -> x.order(MIN)));

        says("Promise 21, order: Throws IllegalStateException if there is no such order.");
        test("a word without a plan", () -> refused("order(0)", STATE, Checks::rich, x -> x.order(0)));
        test("the last place, too", () -> refused("order(2)", STATE, Checks::rich, x -> x.order(2)));
        test("only the last one of 7 words has no plan", () ->
            refused("order(0)", STATE, () -> of("*a;0a;0a;0a;0a;0a;0a;0b;"), x -> x.order(0)));
        test("no stamps", () -> refused("order(0)", STATE, () -> of("0a;"), x -> x.order(0)));
        test("an order that was there before", () -> {
            RubberStamps x = of("*a;0a;");
            due("order(0)", x.order(0), 0);
            x.remove(0);
            dueThrow("order(0)", STATE, x, () -> x.order(0));
        });
        test("an order that was there with as many other letters", () -> {
            RubberStamps x = of("*a;0a;");
            due("order(0)", x.order(0), 0);
            type(x, "*b;0a;").parse();
            dueThrow("order(0)", STATE, x, () -> x.order(0));
            x.undo();
            due("order(0)", x.order(0), 0);
        });
        test("not so many words comes first", () -> refused("order(3)", INDEX, Checks::rich, x -> x.order(3)));
        test("the index -1 comes first", () -> refused("order(-1)", INDEX, Checks::rich, x -> x.order(-1)));
    }

    // ---- Promise 22

    private static void dueLeast(String what, String text, int want) {
        test(what, () -> due("leastCleanings()", of(text).leastCleanings(), want));
    }

    private static void leastCleanings() {
        says("Promise 22, leastCleanings: Returns the number; NONE if there is no such order; 0 without words.");
        test("a new object", () -> due("leastCleanings()", new RubberStamps().leastCleanings(), 0));
        dueLeast("stamps, but no words", "*a;", 0);
        dueLeast("words, but no stamps", "0a;", NONE);
        dueLeast("one word without a plan", "*a;0a;0b;", NONE);
        dueLeast("one word", "*a;3a;", 0);
        dueLeast("7 words of one color", "*a;0a;0a;0a;0a;0a;0a;0a;", 0);
        dueLeast("all 4 colors", "*a;0a;1a;2a;3a;2a;1a;0a;", 3);
        dueLeast("10 stamps of two colors", TEN + "0abcdefghij;1abcdefghij;0abcdefghij;", 10);
        test("no words any more", () -> {
            RubberStamps x = of("*a;0a;1a;");
            x.writeAll();
            x.drop(0);
            x.drop(0);
            due("leastCleanings()", x.leastCleanings(), 0);
        });
        test("above the limit by one press", () -> due("leastCleanings()", of("*a;0aa;1a;", 2, 5).leastCleanings(), NONE));
        test("up to the limit", () -> due("leastCleanings()", of("*a;0aa;1a;", 3, 5).leastCleanings(), 1));
        test("the ink that is there", () -> {
            RubberStamps x = of("*a;0a;1a;");
            x.setColor(0, 2);
            x.write(0);
            x.setColor(0, 0);
            due("leastCleanings()", x.leastCleanings(), 2);
        });
        test("the cleanings so far are not among them", () -> {
            RubberStamps x = of("*a;0a;1a;");
            x.writeAll();
            x.writeAll();
            dueCounts(x, 4, 4, 3);
            due("leastCleanings()", x.leastCleanings(), 1);
        });
    }

    // ---- Promise 23

    private static void cut(String what, String text, int length, int word, int from, int part, int saved) {
        test(what, () -> dueCut(of(text), length, word, from, part, saved));
    }

    private static void bestCutSaves() {
        says("Promise 23, bestCut: the sum of the presses of the best plans of all words, where a word without a plan"
            + " counts 100.");
        cut("a word gets a plan of one press", "0ab;", 5, 0, 0, 2, 99);
        cut("a word gets a plan of 12 presses", "0aaaaaaaaaaaa;", 1, 0, 0, 1, 88);
        cut("a word gets no plan", "0ab;", 1, 0, 0, 1, 0);
        cut("all 7 words get a plan of one press", "0abcde;0abcde;0abcde;0abcde;0abcde;0abcde;0abcde;", 5, 0, 0, 5, 693);
        cut("a word with a plan needs fewer presses", "*a;0aaaaaaaaaaaa;", 5, 0, 0, 4, 9);
        cut("one press less", "*a;*b;0ab;", 5, 0, 0, 2, 1);
        cut("two words without a plan before one with many presses", "*a;0aaaaaaaaaaaa;0b;0cb;*c;", 5, 1, 0, 1, 197);
        cut("the new stamp can be pressed turned", "0nu;", 1, 0, 0, 1, 98);
        cut("the new stamp has no wear at the least limit", "*ab;0ab;", 5, 0, 0, 1, 0);
        test("worn out stamps are left out before and behind", () -> {
            RubberStamps x = of("*ab;0ab;", 1, 5);
            x.write(0);
            dueCut(x, 5, 0, 0, 2, 99);
        });
        test("a worn out stamp is no help for the new one", () -> {
            RubberStamps x = of("*a;0ab;0a;", 1, 5);
            x.write(1);
            dueCut(x, 1, 0, 0, 1, 99);
        });
        test("how often the new one is pressed does not matter", () -> dueCut(of("0aaa;", 1, 5), 1, 0, 0, 1, 97));
    }

    private static void bestCutFirst() {
        says("Promise 23, bestCut: of several parts that save as much the first one by words, then by first letters, then"
            + " by lengths (also if none saves any).");
        cut("the first one of two equal words", "0ab;0ab;", 5, 0, 0, 2, 198);
        cut("the first one of two words that save as much", "0ab;0cd;", 5, 0, 0, 2, 99);
        cut("the second word, which saves more", "0abcd;0e;0ee;", 3, 1, 0, 1, 197);
        cut("the first of two first letters", "*a;*b;0abab;", 5, 0, 0, 4, 3);
        cut("the first letter 0 of two that save as much", "0aa;", 1, 0, 0, 1, 98);
        cut("the first word, though the second one has it at a lower first letter", "*x;*a;*b;0xab;0abx;", 2, 0, 1, 2, 2);
        cut("the first word, though the second one has a shorter part", "*a;*b;*c;*d;0aaab;0cdcd;", 3, 0, 0, 3, 2);
        cut("the lower first letter, though a later one has a shorter part", "*a;*b;*c;0aaabcbc;", 3, 0, 0, 3, 2);
        cut("a later first letter, which saves more", "*a;0ab;", 1, 0, 1, 1, 98);
        cut("the shorter one of two lengths that save as much", "*a;*b;*cd;0abcd;0ab;", 4, 0, 0, 2, 2);
        cut("none saves any: the first letter of the first word", "*ab;0ab;0ab;", 5, 0, 0, 1, 0);
        cut("none saves any, and no word has a plan", "0abcdefghijkl;0abcdefghijkl;", 5, 0, 0, 1, 0);
        cut("none saves any, and all words have one press", "*a;*b;1b;0a;", 5, 0, 0, 1, 0);
        cut("the last letter of the last word", "*a;0a;0a;0a;0a;0a;0a;0aaaaaaaaaaab;", 1, 6, 11, 1, 88);
        cut("the end of the last word", "*a;0a;0a;0a;0a;0a;0a;0aaaaaaaaaaab;", 5, 6, 7, 5, 92);
    }

    private static void bestCutLength() {
        says("Promise 23, bestCut: length: 1 to 5, the greatest length of the part");
        String text = "*a;*b;*c;*d;*e;*f;0abcdef;";
        cut("1", text, 1, 0, 0, 1, 0);
        cut("2", text, 2, 0, 0, 2, 1);
        cut("3", text, 3, 0, 0, 3, 2);
        cut("4", text, 4, 0, 0, 4, 3);
        cut("5", text, 5, 0, 0, 5, 4);
        cut("one below the length that a word needs", "0abcde;", 4, 0, 0, 1, 0);
        cut("the length that a word needs", "0abcde;", 5, 0, 0, 5, 99);
        cut("a greater length than that of the words", "0a;0bc;", 5, 0, 0, 1, 99);
        cut("a part that ends with the word", "*a;0abc;", 2, 0, 1, 2, 98);
        cut("a part is no longer than its word", "*a;*b;0ab;0ba;", 5, 0, 0, 2, 1);
    }

    private static void bestCutNone() {
        says("Promise 23, bestCut: NONE if there are no words, or 10 stamps.");
        test("a new object", () -> dueCut(new RubberStamps(), 5, NONE, NONE, NONE, NONE));
        cut("no words", "*a;", 5, NONE, NONE, NONE, NONE);
        cut("10 stamps", TEN + "0ab;", 5, NONE, NONE, NONE, NONE);
        cut("10 stamps and no words", TEN, 5, NONE, NONE, NONE, NONE);
        test("10 stamps, all of them worn out", () -> {
            RubberStamps x = of(TEN + "0abcdefghij;", 1, 5);
            x.write(0);
            dueCut(x, 5, NONE, NONE, NONE, NONE);
        });
        cut("9 stamps", TEN.substring(3) + "0ab;", 5, 0, 0, 2, 99);
        test("10 stamps and 7 words", () -> dueCut(full(), 5, NONE, NONE, NONE, NONE));
        test("the 10th stamp is removed", () -> {
            RubberStamps x = of(TEN + "0ab;");
            dueCut(x, 5, NONE, NONE, NONE, NONE);
            x.remove(9);
            dueCut(x, 5, 0, 0, 2, 1);
        });
        test("the last word is dropped", () -> {
            RubberStamps x = of("0ab;");
            dueCut(x, 5, 0, 0, 2, 99);
            x.drop(0);
            dueCut(x, 5, NONE, NONE, NONE, NONE);
        });
    }

    private static void badCut(int what, int length) {
        String call = "bestCut(" + what + ", " + length + ")";
        test(call, () -> refused(call, ARGUMENT, Checks::rich, x -> x.bestCut(what, length)));
        test(call + " without words", () -> refused(call, ARGUMENT, RubberStamps::new, x -> x.bestCut(what, length)));
        test(call + " with 10 stamps", () -> refused(call, ARGUMENT, Checks::full, x -> x.bestCut(what, length)));
    }

    private static void bestCutRanges() {
        says("Promise 23, bestCut: Throws IllegalArgumentException if what (0 to 3) or length (1 to 5) is out of range.");
        test("the least of both", () -> asked("bestCut(0, 1)", Checks::rich, x -> x.bestCut(0, 1), 0));
        test("the greatest of both", () -> asked("bestCut(3, 5)", Checks::rich, x -> x.bestCut(3, 5), 99));
        badCut(-1, 1);
        badCut(4, 1);
        badCut(0, 0);
        badCut(0, -1);
        badCut(0, 6);
        badCut(MAX, 5);
        badCut(MIN, 5);
        badCut(3, MAX);
        badCut(3, MIN);
        badCut(-1, 0);
        badCut(4, 6);
    }

    // ---- Promise 24

    private static void mean(String what, String text, double want) {
        test(what, () -> dueMean(of(text), want));
    }

    private static void lettersPerPress() {
        says("Promise 24, lettersPerPress: Returns the number of letters of all words that have a plan, converted to"
            + " double, divided by the sum of the presses of their best plans, converted to double; 0.0 without any.");
        test("a new object", () -> dueMean(new RubberStamps(), 0.0));
        mean("no words", "*a;", 0.0);
        mean("no stamps", "0a;", 0.0);
        mean("no word with a plan", "*a;0b;1ab;", 0.0);
        mean("the least: 1", "*a;0a;", 1.0);
        mean("the greatest: 5", "*abcde;0abcde;", 5.0);
        mean("1 with 84 presses", "*a;" + repeated("0aaaaaaaaaaaa;", 7), 1.0);
        mean("no whole number", "*abc;*d;0abc;1abcd;", 7.0 / 3.0);
        mean("a third", "*a;*ab;0a;0a;0ab;", 4.0 / 3.0);
        mean("one number for all words, not the mean of theirs", "*abc;*d;0abc;1dd;", 5.0 / 3.0);
        mean("the letters of a word without a plan do not count", "*ab;0ab;1xyzxyz;", 2.0);
        mean("the 7th word counts", "*ab;*c;0x;0x;0x;0x;0x;0x;0abc;", 1.5);
        test("a plan that is not possible is a plan", () -> dueMean(of("*a;0aa;", 1, 5), 1.0));
        test("a worn out stamp is left out", () -> {
            RubberStamps x = of("*ab;*a;*b;0ab;", 1, 5);
            dueMean(x, 2.0);
            x.write(0);
            dueMean(x, 1.0);
            x.write(0);
            dueMean(x, 0.0);
        });
    }

    private static void askingChangesNothing() {
        says("Promises 19 to 24: what is asked changes nothing.");
        Maker seven = () -> {
            RubberStamps x = of(TEN + SEVEN, 3, 2);
            x.writeAll();
            x.setColor(0, 3);
            x.write(2);
            return type(x, "0z;*z;");
        };
        test("fewest()", () -> asked("fewest()", seven, x -> x.fewest(), 127));
        test("needed(0)", () -> asked("needed(0)", seven, x -> x.needed(0), 1));
        test("order(0)", () -> asked("order(0)", seven, x -> x.order(0), 0));
        test("leastCleanings()", () -> asked("leastCleanings()", seven, x -> x.leastCleanings(), 1));
        test("bestCut(0, 5)", () -> asked("bestCut(0, 5)", Checks::rich, x -> x.bestCut(0, 5), 1));
        test("bestCut(1, 5)", () -> asked("bestCut(1, 5)", Checks::rich, x -> x.bestCut(1, 5), 0));
        test("bestCut(2, 5)", () -> asked("bestCut(2, 5)", Checks::rich, x -> x.bestCut(2, 5), 3));
        test("lettersPerPress()", () ->
            asked("lettersPerPress()", seven, x -> Double.doubleToLongBits(x.lettersPerPress()), Double.doubleToLongBits(1.0)));
    }
}
