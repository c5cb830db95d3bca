/** What each call changes, and that it leaves the rest alone: all that a rich set holds is told behind the call. */
public final class ChangesTest extends Checks {
    /** Stamps: ink, amount, wear; words with color and best plan; limit, load; presses, inkings, cleanings. */
    private static final String RICH =
        "no:0,1,1 u:1,1,5 xyz:-1,0,0 | 0noun=0 1 1' 2cat= 1nun=1' 1 1' | 9 2 | 6 4 1";

    public static void main(String[] args) {
        richSet();
        text();
        parse();
        cut();
        removeAndDrop();
        setColorAndLimits();
        clean();
        write();
        undo();
        asking();
        end("what each call changes");
    }

    private static String items(RubberStamps x) {
        StringBuilder made = new StringBuilder();
        for (int s = 0; s < x.value(0); s++) {
            made.append(stampText(x, s)).append(':').append(x.stamp(s, 1)).append(',').append(x.stamp(s, 2));
            made.append(',').append(x.stamp(s, 3)).append(' ');
        }
        made.append('|');
        for (int w = 0; w < x.value(1); w++) {
            made.append(' ').append(x.word(w, 1)).append(wordText(x, w)).append('=').append(planText(x, w));
        }
        return made.toString();
    }

    private static String state(RubberStamps x) {
        StringBuilder made = new StringBuilder(items(x));
        made.append(" | ").append(x.value(2)).append(' ').append(x.value(3));
        made.append(" | ").append(x.value(4)).append(' ').append(x.value(5)).append(' ').append(x.value(6));
        return made.toString();
    }

    /** The call answers this and makes this state of a rich set; and the text of the rich set stays. */
    private static void changes(String what, CallOn call, long answer, String behind) {
        test(what, () -> {
            RubberStamps x = rich();
            due(what, call.on(x), answer);
            dueText("the state behind it", state(x), behind);
            due("parse() of the text of before", x.parse(), 2);
            dueText("the items of the text of before", items(x), "b:-1,0,0 | 3bb=0 0");
            due("clearText()", x.clearText(), 7);
        });
    }

    private static void leaves(String what, CallOn call, long answer) {
        changes(what, call, answer, RICH);
    }

    private static void richSet() {
        says("Terms: the state");
        test("a rich set", () -> dueText("its state", state(rich()), RICH));
    }

    private static void text() {
        says("Promises 2 and 3: only the text is changed.");
        test("append", () -> {
            RubberStamps x = rich();
            due("append('*')", x.append('*'), 8);
            dueText("the state behind it", state(x), RICH);
            due("parse()", x.parse(), -18);
        });
        test("clearText", () -> {
            RubberStamps x = rich();
            due("clearText()", x.clearText(), 7);
            dueText("the state behind it", state(x), RICH);
        });
    }

    private static void parse() {
        says("Promise 4: Makes the stamps and words those of the text, all stamps without ink and wear, with no presses,"
            + " inkings and cleanings so far; limit and load stay. The text stays as it is.");
        changes("parse()", x -> x.parse(), 2, "b:-1,0,0 | 3bb=0 0 | 9 2 | 0 0 0");
        test("with a syntax error behind good items nothing changes", () -> {
            RubberStamps x = type(rich(), "*a;0a;*b;1a");
            due("parse()", x.parse(), -21);
            dueText("the state behind it", state(x), RICH);
        });
    }

    private static void cut() {
        says("Promise 5: Adds a stamp whose letters are a part of a word.");
        changes("cut(1, 0, 3)", x -> x.cut(1, 0, 3), 3,
            "no:0,1,1 u:1,1,5 xyz:-1,0,0 cat:-1,0,0 | 0noun=0 1 1' 2cat=3 1nun=1' 1 1' | 9 2 | 6 4 1");
        changes("cut(0, 0, 2), a stamp that is there", x -> x.cut(0, 0, 2), 3,
            "no:0,1,1 u:1,1,5 xyz:-1,0,0 no:-1,0,0 | 0noun=0 1 1' 2cat= 1nun=1' 1 1' | 9 2 | 6 4 1");
    }

    private static void removeAndDrop() {
        says("Promise 6: Removes a stamp; the numbers of those behind it decrease by 1.");
        changes("remove(0)", x -> x.remove(0), 2,
            "u:1,1,5 xyz:-1,0,0 | 0noun= 2cat= 1nun=0' 0 0' | 9 2 | 6 4 1");
        changes("remove(1)", x -> x.remove(1), 2,
            "no:0,1,1 xyz:-1,0,0 | 0noun= 2cat= 1nun= | 9 2 | 6 4 1");
        changes("remove(2)", x -> x.remove(2), 2,
            "no:0,1,1 u:1,1,5 | 0noun=0 1 1' 2cat= 1nun=1' 1 1' | 9 2 | 6 4 1");

        says("Promise 7: Removes a word; the numbers of those behind it decrease by 1.");
        changes("drop(0)", x -> x.drop(0), 2,
            "no:0,1,1 u:1,1,5 xyz:-1,0,0 | 2cat= 1nun=1' 1 1' | 9 2 | 6 4 1");
        changes("drop(1)", x -> x.drop(1), 2,
            "no:0,1,1 u:1,1,5 xyz:-1,0,0 | 0noun=0 1 1' 1nun=1' 1 1' | 9 2 | 6 4 1");
        changes("drop(2)", x -> x.drop(2), 2,
            "no:0,1,1 u:1,1,5 xyz:-1,0,0 | 0noun=0 1 1' 2cat= | 9 2 | 6 4 1");
    }

    private static void setColorAndLimits() {
        says("Promise 8: Sets the color of a word.");
        changes("setColor(0, 3)", x -> x.setColor(0, 3), 0,
            "no:0,1,1 u:1,1,5 xyz:-1,0,0 | 3noun=0 1 1' 2cat= 1nun=1' 1 1' | 9 2 | 6 4 1");
        changes("setColor(1, 0)", x -> x.setColor(1, 0), 2,
            "no:0,1,1 u:1,1,5 xyz:-1,0,0 | 0noun=0 1 1' 0cat= 1nun=1' 1 1' | 9 2 | 6 4 1");
        leaves("setColor(2, 1)", x -> x.setColor(2, 1), 1);

        says("Promise 9: Sets limit and load. (Amounts stay.)");
        test("a limit that wears a stamp out, and a load below and above the amounts", () -> {
            RubberStamps x = rich();
            due("setLimits(5, 20)", x.setLimits(5, 20), 9);
            dueText("the state behind it", state(x),
                "no:0,1,1 u:1,1,5 xyz:-1,0,0 | 0noun= 2cat= 1nun= | 5 20 | 6 4 1");
            due("setLimits(200, 1)", x.setLimits(200, 1), 5);
            dueText("the state behind it", state(x),
                "no:0,1,1 u:1,1,5 xyz:-1,0,0 | 0noun=0 1 1' 2cat= 1nun=1' 1 1' | 200 1 | 6 4 1");
        });
        leaves("setLimits(9, 2)", x -> x.setLimits(9, 2), 9);
    }

    private static void clean() {
        says("Promise 10: Cleans a stamp: it has no ink then, and the amount 0. (A cleaning is counted if it had an ink.)");
        changes("clean(0)", x -> x.clean(0), 1,
            "no:-1,0,1 u:1,1,5 xyz:-1,0,0 | 0noun=0 1 1' 2cat= 1nun=1' 1 1' | 9 2 | 6 4 2");
        changes("clean(1)", x -> x.clean(1), 1,
            "no:0,1,1 u:-1,0,5 xyz:-1,0,0 | 0noun=0 1 1' 2cat= 1nun=1' 1 1' | 9 2 | 6 4 2");
        leaves("clean(2)", x -> x.clean(2), 0);
        test("a stamp that is worn out", () -> {
            RubberStamps x = rich();
            x.setLimits(5, 2);
            due("clean(1)", x.clean(1), 1);
            dueText("the state behind it", state(x),
                "no:0,1,1 u:-1,0,5 xyz:-1,0,0 | 0noun= 2cat= 1nun= | 5 2 | 6 4 2");
        });
    }

    private static void write() {
        says("Promises 17 and 18: only inks, amounts, wear and what is counted so far are changed by writing.");
        changes("write(0)", x -> x.write(0), 3,
            "no:0,0,2 u:0,0,7 xyz:-1,0,0 | 0noun=0 1 1' 2cat= 1nun=1' 1 1' | 9 2 | 9 5 2");
        changes("write(2)", x -> x.write(2), 3,
            "no:0,1,1 u:1,0,8 xyz:-1,0,0 | 0noun=0 1 1' 2cat= 1nun=1' 1 1' | 9 2 | 9 5 1");
        // The word 2 would take the stamp 1 from the wear 7 to 10, above the limit of 9.
        changes("writeAll()", x -> x.writeAll(), 1,
            "no:0,0,2 u:0,0,7 xyz:-1,0,0 | 0noun=0 1 1' 2cat= 1nun=1' 1 1' | 9 2 | 9 5 2");
        test("writeAll() with room for both words, up to the limit", () -> {
            RubberStamps x = rich();
            x.setLimits(10, 2);
            due("writeAll()", x.writeAll(), 2);
            dueText("the state behind it", state(x),
                "no:0,0,2 u:1,1,10 xyz:-1,0,0 | 0noun= 2cat= 1nun= | 10 2 | 12 7 3");
        });
    }

    private static void undo() {
        says("Promise 25: Restores the most recently saved state.");
        changes("undo() of the second write", x -> x.undo(), 3,
            "no:0,1,1 u:0,0,2 xyz:-1,0,0 | 0noun=0 1 1' 2cat= 1nun=1' 1 1' | 9 2 | 3 2 0");
        test("undo() of both writes, of setLimits and of parse", () -> {
            RubberStamps x = rich();
            x.undo();
            x.undo();
            dueText("the state behind two", state(x),
                "no:-1,0,0 u:-1,0,0 xyz:-1,0,0 | 0noun=0 1 1' 2cat= 1nun=1' 1 1' | 9 2 | 0 0 0");
            x.undo();
            dueText("the state behind three", state(x),
                "no:-1,0,0 u:-1,0,0 xyz:-1,0,0 | 0noun=0 1 1' 2cat= 1nun=1' 1 1' | 100 5 | 0 0 0");
            x.undo();
            dueText("the state behind four", state(x), "| | 100 5 | 0 0 0");
            due("clearText()", x.clearText(), 7);
        });
    }

    private static void asking() {
        says("Promises 11 to 16, 19 to 24 and 26: what is asked changes nothing.");
        int[] values = {3, 3, 9, 2, 6, 4, 1, 0, 2};
        for (int what = 0; what < values.length; what++) {
            int w = what;
            leaves("value(" + w + ")", x -> x.value(w), values[w]);
        }
        int[] stampFacts = {1, 1, 1, 5, 1, 0};
        int[] wordFacts = {4, 0, 3, 1, 1, 1};
        for (int what = 0; what <= 5; what++) {
            int w = what;
            leaves("stamp(1, " + w + ")", x -> x.stamp(1, w), stampFacts[w]);
            leaves("word(0, " + w + ")", x -> x.word(0, w), wordFacts[w]);
        }
        leaves("print(1, 0, true)", x -> x.print(1, 0, true), 'n' - 'a');
        leaves("letter(0, 1)", x -> x.letter(0, 1), 'o' - 'a');
        leaves("press(0, 2)", x -> x.press(0, 2), 3);
        leaves("fewest()", x -> x.fewest(), NONE);
        leaves("needed(1)", x -> x.needed(1), 2);
        leaves("leastCleanings()", x -> x.leastCleanings(), NONE);
        leaves("bestCut(0, 5)", x -> x.bestCut(0, 5), 1);
        leaves("lettersPerPress()", x -> (long) (x.lettersPerPress() * 6.0), 7);
        leaves("digest()", x -> x.digest() == rich().digest() ? 1 : 0, 1);
        test("order() and leastCleanings() of words that can all be written", () -> {
            RubberStamps x = rich();
            x.drop(1);
            x.setLimits(10, 2);
            // The stamp 1 has the ink of the second word.
            dueOrder(x, 1, 0);
            due("leastCleanings()", x.leastCleanings(), 1);
            dueText("the state behind it", state(x),
                "no:0,1,1 u:1,1,5 xyz:-1,0,0 | 0noun=0 1 1' 1nun=1' 1 1' | 10 2 | 6 4 1");
        });
    }
}
