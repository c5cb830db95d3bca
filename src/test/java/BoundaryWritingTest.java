/** A test for each boundary case that the document names about writing, and in promises 17 and 18. */
public final class BoundaryWritingTest extends Checks {
    public static void main(String[] args) {
        possible();
        possibleWithOthers();
        otherPlans();
        firstInk();
        otherInk();
        sameInk();
        loads();
        amountAndWear();
        write();
        writeRefused();
        writeAll();
        writeAllTurns();
        writeAllUndo();
        end("boundaries of writing");
    }

    /** A set of this text with this limit and load, in which these words were written, in this order. */
    private static RubberStamps written(String text, int limit, int load, int... words) {
        RubberStamps x = of(text, limit, load);
        for (int word : words) {
            x.write(word);
        }
        return x;
    }

    // ---- Terms: writing a word

    private static void possible() {
        says("Terms, Writing a word: It is possible if there is a plan, and each stamp of it, by as many presses as the"
            + " plan has of it, does not come above the limit.");
        test("no plan", () -> refused("write(0)", STATE, () -> of("*a;0b;"), x -> x.write(0)));
        test("no stamps", () -> refused("write(0)", STATE, () -> of("0b;"), x -> x.write(0)));
        test("up to the limit", () -> {
            RubberStamps x = of("*a;0aaa;", 3, 5);
            due("write(0)", x.write(0), 3);
            due("stamp(0, 3)", x.stamp(0, 3), 3);
        });
        test("one above the limit", () -> refused("write(0)", STATE, () -> of("*a;0aaaa;", 3, 5), x -> x.write(0)));
        test("up to the limit, with wear", () -> due("write(1)", written("*a;0a;0aa;", 3, 5, 0).write(1), 2));
        test("one above the limit, with wear", () ->
            refused("write(1)", STATE, () -> written("*a;0a;0aa;", 2, 5, 0), x -> x.write(1)));
        test("one press with the limit 1", () -> due("write(0)", of("*a;0a;", 1, 5).write(0), 1));
        test("two presses with the limit 1", () -> refused("write(0)", STATE, () -> of("*a;0aa;", 1, 5), x -> x.write(0)));
        test("up to the limit 200, and not again", () -> {
            RubberStamps x = of("*a;0aaaaaaaaaa;", 200, 5);
            write(x, 0, 20);
            due("stamp(0, 3)", x.stamp(0, 3), 200);
            dueThrow("write(0)", STATE, x, () -> x.write(0));
        });
        test("one above the limit 200, and up to it", () -> {
            RubberStamps x = of("*a;0aaaaaaaaaa;0a;0aaaaaaaaa;", 200, 5);
            write(x, 0, 19);
            x.write(1);
            dueThrow("write(0)", STATE, x, () -> x.write(0));
            due("write(2)", x.write(2), 9);
        });
        test("a worn out stamp leaves no plan", () ->
            refused("write(0)", STATE, () -> written("*a;0a;", 1, 5, 0), x -> x.write(0)));
        test("a raised limit makes it possible", () -> {
            RubberStamps x = of("*a;0aaa;", 2, 5);
            due("word(0, 3)", x.word(0, 3), 0);
            x.setLimits(3, 5);
            due("write(0)", x.write(0), 3);
        });
    }

    private static void possibleWithOthers() {
        test("each stamp counts alone", () -> due("write(0)", of("*a;*b;0abab;", 2, 5).write(0), 4));
        test("the first stamp is above", () -> refused("write(0)", STATE, () -> of("*a;*b;0aab;", 1, 5), x -> x.write(0)));
        test("the second stamp is above", () -> refused("write(0)", STATE, () -> of("*a;*b;0abb;", 1, 5), x -> x.write(0)));
        test("the 10th stamp is above", () -> refused("write(0)", STATE, () -> of(TEN + "0jj;", 1, 5), x -> x.write(0)));
        test("the 10th stamp is not above", () -> due("write(0)", of(TEN + "0jj;", 2, 5).write(0), 2));
        test("straight and turned presses of a stamp count together", () ->
            refused("write(0)", STATE, () -> of("*n;0nu;", 1, 5), x -> x.write(0)));
        test("straight and turned presses up to the limit", () -> due("write(0)", of("*n;0nu;", 2, 5).write(0), 2));
        test("a stamp that the plan leaves alone may be above a lowered limit", () -> {
            RubberStamps x = written("*a;*b;0aaa;1b;", 100, 5, 0);
            x.setLimits(1, 5);
            due("write(1)", x.write(1), 1);
        });
        test("a stamp that the plan leaves alone may be worn out", () ->
            due("write(1)", written("*a;*b;0a;1b;", 1, 5, 0).write(1), 1));
    }

    private static void otherPlans() {
        says("Terms, Writing a word: (other plans are not looked at).");
        test("one as short, with a higher number", () ->
            refused("write(0)", STATE, () -> of("*a;*a;0aa;", 1, 5), x -> x.write(0)));
        test("a longer one", () -> refused("write(0)", STATE, () -> of("*ab;*a;*b;0abab;", 1, 5), x -> x.write(0)));
        test("not by writeAll() either", () -> due("writeAll()", of("*a;*a;0aa;", 1, 5).writeAll(), 0));
        test("not by word(0, 3) either", () -> due("word(0, 3)", of("*a;*a;0aa;", 1, 5).word(0, 3), 0));
    }

    private static void firstInk() {
        says("Terms, Writing a word: At each press, if the ink of the stamp is not the color of the word, it is inked: an"
            + " inking is counted; its ink becomes this color, and its amount the load.");
        for (int color = 0; color <= 3; color++) {
            int c = color;
            test("no ink, then the color " + c, () -> {
                RubberStamps x = written("*a;" + c + "a;", 100, 5, 0);
                dueCounts(x, 1, 1, 0);
                dueStamp(x, 0, c, 4, 1);
            });
        }
        test("each stamp is inked for itself", () -> {
            RubberStamps x = written("*a;*b;0ab;", 100, 5, 0);
            dueCounts(x, 2, 2, 0);
            dueStamp(x, 0, 0, 4, 1);
            dueStamp(x, 1, 0, 4, 1);
        });
        test("the 10th stamp", () -> dueStamp(written(TEN + "3j;", 100, 5, 0), 9, 3, 4, 1));
        test("no other stamp is inked", () -> dueStamp(written(TEN + "3j;", 100, 5, 0), 8, NONE, 0, 0));
        test("a turned press, too", () -> {
            RubberStamps x = written("*u;2n;", 100, 5, 0);
            dueCounts(x, 1, 1, 0);
            dueStamp(x, 0, 2, 4, 1);
        });
        test("a word whose color was set", () -> {
            RubberStamps x = of("*a;0a;");
            x.setColor(0, 3);
            x.write(0);
            dueStamp(x, 0, 3, 4, 1);
        });
    }

    private static void otherInk() {
        says("Terms, Writing a word: and a cleaning, too, if it had another ink.");
        test("from the color 0 to 3", () -> {
            RubberStamps x = written("*a;0a;3a;", 100, 5, 0, 1);
            dueCounts(x, 2, 2, 1);
            dueStamp(x, 0, 3, 4, 2);
        });
        test("from the color 3 to 0", () -> {
            RubberStamps x = written("*a;3a;0a;", 100, 5, 0, 1);
            dueCounts(x, 2, 2, 1);
            dueStamp(x, 0, 0, 4, 2);
        });
        test("from another ink with the amount 0", () -> {
            RubberStamps x = written("*a;0a;1a;", 100, 1, 0, 1);
            dueCounts(x, 2, 2, 1);
            dueStamp(x, 0, 1, 0, 2);
        });
        test("one cleaning for a word of one stamp", () ->
            dueCounts(written("*a;0a;1aaaa;", 100, 5, 0, 1), 5, 2, 1));
        test("one cleaning for each stamp", () -> {
            RubberStamps x = written(TEN + "0abcdefghij;1abcdefghij;", 100, 5, 0, 1);
            dueCounts(x, 20, 20, 10);
        });
        test("there and back", () -> dueCounts(written("*a;0a;1a;", 100, 5, 0, 1, 0), 3, 3, 2));
        test("none for a stamp without ink beside one with", () ->
            dueCounts(written("*a;*b;0a;1ab;", 100, 5, 0, 1), 3, 3, 1));
    }

    private static void sameInk() {
        says("Terms, Writing a word: If it has this ink, but the amount 0, it is inked likewise, without a cleaning.");
        test("the amount 1 is enough for a press", () -> {
            RubberStamps x = written("*a;0a;", 100, 2, 0, 0);
            dueCounts(x, 2, 1, 0);
            dueStamp(x, 0, 0, 0, 2);
        });
        test("the amount 0", () -> {
            RubberStamps x = written("*a;0a;", 100, 2, 0, 0, 0);
            dueCounts(x, 3, 2, 0);
            dueStamp(x, 0, 0, 1, 3);
        });
        test("the amount 0 within a word", () -> {
            RubberStamps x = written("*a;0aaa;", 100, 2, 0);
            dueCounts(x, 3, 2, 0);
            dueStamp(x, 0, 0, 1, 3);
        });
        test("the amount just enough for a word", () -> {
            RubberStamps x = written("*a;0aaaaa;", 100, 5, 0);
            dueCounts(x, 5, 1, 0);
            dueStamp(x, 0, 0, 0, 5);
        });
        test("the amount one too small for a word", () -> {
            RubberStamps x = written("*a;0aaaaaa;", 100, 5, 0);
            dueCounts(x, 6, 2, 0);
            dueStamp(x, 0, 0, 4, 6);
        });
        test("it is inked with the load of now", () -> {
            RubberStamps x = written("*a;0a;", 100, 1, 0);
            x.setLimits(100, 20);
            x.write(0);
            dueStamp(x, 0, 0, 19, 2);
        });
    }

    private static void loads() {
        says("Terms, Writing a word: the load (1 to 20, initially 5).");
        test("the load 5 initially", () -> {
            RubberStamps x = of("*a;0a;");
            x.write(0);
            dueStamp(x, 0, 0, 4, 1);
        });
        test("the load 1: each press is inked", () -> {
            RubberStamps x = written("*a;0aaaaaaaaaaaa;", 100, 1, 0);
            dueCounts(x, 12, 12, 0);
            dueStamp(x, 0, 0, 0, 12);
        });
        test("the load 20: 20 presses, one inking", () -> {
            RubberStamps x = written("*a;0aaaaaaaaaa;", 100, 20, 0, 0);
            dueCounts(x, 20, 1, 0);
            dueStamp(x, 0, 0, 0, 20);
        });
        test("the load 20: the 21st press is inked", () -> {
            RubberStamps x = written("*a;0aaaaaaaaaa;0a;", 100, 20, 0, 0, 1);
            dueCounts(x, 21, 2, 0);
            dueStamp(x, 0, 0, 19, 21);
        });
    }

    private static void amountAndWear() {
        says("Terms, Writing a word: Then the amount decreases by 1, and the wear increases by 1.");
        test("by each press of a stamp", () -> {
            RubberStamps x = written("*a;*b;0aabaa;", 100, 20, 0);
            dueStamp(x, 0, 0, 16, 4);
            dueStamp(x, 1, 0, 19, 1);
        });
        test("by a turned press, too", () -> dueStamp(written("*n;0nunu;", 100, 20, 0), 0, 0, 16, 4));
        test("a press of 5 letters is one", () -> dueStamp(written("*abcde;0abcde;", 100, 20, 0), 0, 0, 19, 1));
        test("a cleaning leaves the wear", () -> dueStamp(written("*a;0aa;1a;", 100, 20, 0, 1), 0, 1, 19, 3));
    }

    // ---- Promise 17

    private static void write() {
        says("Promise 17, write: Writes a word. Undoable. Returns the number of presses.");
        test("undoable", () -> undoable("write(0)", Checks::richWithRoom, x -> x.write(0), 3));
        test("1 press", () -> due("write(0)", of("*abcde;0abcde;").write(0), 1));
        test("12 presses", () -> due("write(0)", of("*a;0aaaaaaaaaaaa;").write(0), 12));
        test("12 presses are counted", () -> dueCounts(written("*a;0aaaaaaaaaaaa;", 100, 5, 0), 12, 3, 0));
        test("the 7th word", () -> {
            RubberStamps x = of(TEN + SEVEN);
            due("write(6)", x.write(6), 1);
            dueStamp(x, 6, 2, 4, 1);
        });
        test("the plan of before is carried out, though it wears a stamp out", () -> {
            RubberStamps x = written("*ab;*a;*b;0ab;", 1, 5, 0);
            dueStamp(x, 0, 0, 4, 1);
            dueStamp(x, 1, NONE, 0, 0);
            due("the next plan", x.write(0), 2);
        });
    }

    private static void writeRefused() {
        says("Promise 17, write: Throws IndexOutOfBoundsException if there is no such word.");
        test("the last word is taken", () -> {
            RubberStamps x = richWithRoom();
            due("write(2)", x.write(2), 3);
        });
        test("-1", () -> refused("write(-1)", INDEX, Checks::rich, x -> x.write(-1)));
        test("one above the last word", () -> refused("write(3)", INDEX, Checks::rich, x -> x.write(3)));
        test("7 of 7", () -> refused("write(7)", INDEX, Checks::full, x -> x.write(7)));
        test("the greatest int", () -> refused("write(MAX)", INDEX, Checks::rich, x -> x.write(MAX)));
        test("the least int", () -> refused("write(MIN)", INDEX, Checks::rich, x -> x.write(MIN)));

        says("Promise 17, write: Throws IllegalStateException if it is not possible.");
        test("no plan", () -> refused("write(1)", STATE, Checks::rich, x -> x.write(1)));
        // The stamp 1, "u", has the wear 5 of 9, and is pressed 3 times by the word 2.
        test("above the limit", () -> {
            RubberStamps x = rich();
            x.setLimits(7, 2);
            dueThrow("write(2)", STATE, x, () -> x.write(2));
            x.setLimits(8, 2);
            due("write(2)", x.write(2), 3);
        });
        test("a refused call saves no state", () -> {
            RubberStamps x = of("*a;0b;");
            dueThrow("write(0)", STATE, x, () -> x.write(0));
            due("saved states", savedStates(x), 1);
        });
    }

    // ---- Promise 18

    private static void writeAll() {
        says("Promise 18, writeAll: Returns the number of words that were written (also 0).");
        test("a new object", () -> due("writeAll()", new RubberStamps().writeAll(), 0));
        test("no words", () -> due("writeAll()", of("*a;").writeAll(), 0));
        test("no stamps", () -> due("writeAll()", of("0a;").writeAll(), 0));
        test("no word is possible", () -> due("writeAll()", of("*a;0aa;0aaa;", 1, 5).writeAll(), 0));
        test("one word", () -> due("writeAll()", of("*a;0a;").writeAll(), 1));
        test("all 7", () -> {
            RubberStamps x = of(TEN + SEVEN);
            due("writeAll()", x.writeAll(), 7);
            dueCounts(x, 7, 7, 0);
        });
        test("only the first one of 7", () -> due("writeAll()", of("*a;" + SEVEN).writeAll(), 1));
        test("only the last one of 7", () -> {
            RubberStamps x = of("*g;" + SEVEN);
            due("writeAll()", x.writeAll(), 1);
            dueStamp(x, 0, 2, 4, 1);
        });
    }

    private static void writeAllTurns() {
        says("Promise 18, writeAll: Writes all words, in ascending order, as far as each one is possible when it is its"
            + " turn; the others are passed over.");
        test("in ascending order: the last ink is that of the last word", () -> {
            RubberStamps x = of("*a;0a;1a;2a;");
            x.writeAll();
            dueCounts(x, 3, 3, 2);
            dueStamp(x, 0, 2, 4, 3);
        });
        test("a word behind one that is passed over", () -> {
            RubberStamps x = of("*a;0b;1a;");
            due("writeAll()", x.writeAll(), 1);
            dueStamp(x, 0, 1, 4, 1);
        });
        test("up to the limit", () -> due("writeAll()", of("*a;0aa;0a;", 3, 5).writeAll(), 2));
        test("the second one is above the limit by then", () -> {
            RubberStamps x = of("*a;0aa;0aa;0a;", 3, 5);
            due("writeAll()", x.writeAll(), 2);
            dueCounts(x, 3, 1, 0);
        });
        test("the first one wears the stamp out", () -> {
            RubberStamps x = of("*a;0a;0a;", 1, 5);
            due("writeAll()", x.writeAll(), 1);
            dueCounts(x, 1, 1, 0);
        });
        test("the first one wears a stamp out, and the second one has another plan by then", () -> {
            RubberStamps x = of("*ab;*a;*b;0ab;0ab;", 1, 5);
            due("writeAll()", x.writeAll(), 2);
            dueCounts(x, 3, 3, 0);
        });
        test("the first one makes the second one possible", () -> {
            RubberStamps x = of("*ab;*a;*b;0ab;0abab;", 2, 5);
            x.write(0);
            due("word(1, 3)", x.word(1, 3), 0);
            due("writeAll()", x.writeAll(), 2);
            dueStamp(x, 1, 0, 3, 2);
        });
        test("a word that is passed over is not written later, though it would be possible then", () -> {
            RubberStamps x = of("*ab;*a;*b;0abab;0ab;", 2, 5);
            x.write(1);
            due("writeAll()", x.writeAll(), 1);
            due("word(0, 3)", x.word(0, 3), 1);
            due("writeAll()", x.writeAll(), 1);
        });
    }

    private static void writeAllUndo() {
        says("Promise 18, writeAll: Undoable (one saved state).");
        test("all words", () -> undoable("writeAll()", Checks::richWithRoom, x -> x.writeAll(), 2));
        test("all 7 words", () -> undoable("writeAll()", () -> of(TEN + SEVEN), x -> x.writeAll(), 7));
        test("no word is written", () -> undoable("writeAll()", () -> of("*a;0b;"), x -> x.writeAll(), 0));
        test("a new object", () -> undoable("writeAll()", RubberStamps::new, x -> x.writeAll(), 0));
    }
}
