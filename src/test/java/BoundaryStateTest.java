import java.math.BigInteger;

/** A test for each boundary case that the document names about undo and exceptions, and in promises 25 and 26. */
public final class BoundaryStateTest extends Checks {
    public static void main(String[] args) {
        eachUndoable();
        changesNothing();
        notUndoable();
        refusedSavesNothing();
        atMostFour();
        allButTheText();
        exceptions();
        undo();
        undoAgain();
        digestStart();
        digestParts();
        digestOverflow();
        digestIsAsked();
        manyCalls();
        end("boundaries of the state");
    }

    private static void dueSaved(String what, Maker maker, CallOn call, int want) {
        test(what, () -> {
            RubberStamps x = maker.make();
            try {
                call.on(x);
            } catch (RuntimeException e) {
                // A refused call is meant.
            }
            due("saved states", savedStates(x), want);
        });
    }

    // ---- Terms: undo

    private static void eachUndoable() {
        says("Terms, Undo: Each successful call of a method whose description says \"undoable\" saves the state from before"
            + " the call.");
        Maker maker = Checks::richWithRoom;
        dueSaved("none of these calls", maker, x -> 0, 3);
        dueSaved("parse()", maker, x -> x.parse(), 4);
        dueSaved("cut(0, 0, 1)", maker, x -> x.cut(0, 0, 1), 4);
        dueSaved("remove(0)", maker, x -> x.remove(0), 4);
        dueSaved("drop(0)", maker, x -> x.drop(0), 4);
        dueSaved("setColor(0, 1)", maker, x -> x.setColor(0, 1), 4);
        dueSaved("setLimits(1, 1)", maker, x -> x.setLimits(1, 1), 4);
        dueSaved("clean(0)", maker, x -> x.clean(0), 4);
        dueSaved("write(0)", maker, x -> x.write(0), 4);
        dueSaved("writeAll()", maker, x -> x.writeAll(), 4);
    }

    private static void changesNothing() {
        says("Terms, Undo: even if the call changes nothing.");
        dueSaved("parse() of nothing in a new object", RubberStamps::new, x -> x.parse(), 1);
        dueSaved("parse() of the same text", () -> of("*a;0a;"), x -> x.parse(), 2);
        dueSaved("setColor to the color that it has", () -> of("0a;"), x -> x.setColor(0, 0), 2);
        dueSaved("setLimits to those that are set", RubberStamps::new, x -> x.setLimits(100, 5), 1);
        dueSaved("clean without ink", () -> of("*a;"), x -> x.clean(0), 2);
        dueSaved("writeAll without words", RubberStamps::new, x -> x.writeAll(), 1);
        dueSaved("writeAll without a possible word", () -> of("0a;"), x -> x.writeAll(), 2);
    }

    private static void notUndoable() {
        says("Terms, Undo: a method whose description does not say \"undoable\" saves nothing.");
        Maker maker = Checks::richWithRoom;
        dueSaved("append", maker, x -> x.append(97), 3);
        dueSaved("clearText", maker, x -> x.clearText(), 3);
        dueSaved("undo takes one", maker, x -> x.undo(), 2);
        test("value", () -> asked("value(0)", maker, x -> x.value(0), 3));
        test("stamp", () -> asked("stamp(0, 3)", maker, x -> x.stamp(0, 3), 1));
        test("print", () -> asked("print(0, 0, true)", maker, x -> x.print(0, 0, true), 'o' - 'a'));
        test("word", () -> asked("word(0, 4)", maker, x -> x.word(0, 4), 1));
        test("letter", () -> asked("letter(0, 0)", maker, x -> x.letter(0, 0), 'n' - 'a'));
        test("press", () -> asked("press(0, 1)", maker, x -> x.press(0, 1), 2));
    }

    private static void refusedSavesNothing() {
        says("Terms, Undo: Each successful call saves the state; a call that throws, or a parse with an error, saves nothing.");
        dueSaved("parse() with an error", () -> type(richWithRoom(), "*"), x -> x.parse(), 3);
        Maker maker = Checks::richWithRoom;
        dueSaved("cut", maker, x -> x.cut(0, 4, 1), 3);
        dueSaved("cut with 10 stamps", () -> of(TEN + "0a;"), x -> x.cut(0, 0, 1), 1);
        dueSaved("remove", maker, x -> x.remove(3), 3);
        dueSaved("drop", maker, x -> x.drop(3), 3);
        dueSaved("setColor", maker, x -> x.setColor(0, 4), 3);
        dueSaved("setLimits", maker, x -> x.setLimits(1, 21), 3);
        dueSaved("clean", maker, x -> x.clean(3), 3);
        dueSaved("write without such a word", maker, x -> x.write(3), 3);
        dueSaved("write that is not possible", maker, x -> x.write(1), 3);
    }

    /** An object behind n undoable calls; the limit is n, and was n - 1 before the last of them. */
    private static RubberStamps limits(int n) {
        RubberStamps x = new RubberStamps();
        for (int i = 1; i <= n; i++) {
            x.setLimits(i, 5);
        }
        return x;
    }

    private static void dueUndo(RubberStamps x, int left, int limit) {
        due("undo()", x.undo(), left);
        due("value(2)", x.value(2), limit);
    }

    private static void atMostFour() {
        says("Terms, Undo: at most 4 states are saved, and the oldest is dropped first.");
        test("none of none", () -> due("saved states", savedStates(limits(0)), 0));
        test("1 of 1", () -> due("saved states", savedStates(limits(1)), 1));
        test("3 of 3", () -> due("saved states", savedStates(limits(3)), 3));
        test("4 of 4", () -> {
            RubberStamps x = limits(4);
            dueUndo(x, 3, 3);
            dueUndo(x, 2, 2);
            dueUndo(x, 1, 1);
            dueUndo(x, 0, 100);
            dueThrow("a fifth undo()", STATE, x, () -> x.undo());
        });
        test("4 of 5", () -> {
            RubberStamps x = limits(5);
            dueUndo(x, 3, 4);
            dueUndo(x, 2, 3);
            dueUndo(x, 1, 2);
            dueUndo(x, 0, 1);
            dueThrow("a fifth undo()", STATE, x, () -> x.undo());
        });
        test("4 of 9", () -> {
            RubberStamps x = limits(9);
            dueUndo(x, 3, 8);
            dueUndo(x, 2, 7);
            dueUndo(x, 1, 6);
            dueUndo(x, 0, 5);
            dueThrow("a fifth undo()", STATE, x, () -> x.undo());
        });
        test("4 of 200", () -> {
            RubberStamps x = limits(200);
            dueUndo(x, 3, 199);
            dueUndo(x, 2, 198);
            dueUndo(x, 1, 197);
            dueUndo(x, 0, 196);
            dueThrow("a fifth undo()", STATE, x, () -> x.undo());
        });
        test("room again behind undo()", () -> {
            RubberStamps x = limits(5);
            x.undo();
            x.undo();
            x.setLimits(50, 5);
            x.setLimits(51, 5);
            x.setLimits(52, 5);
            dueUndo(x, 3, 51);
            dueUndo(x, 2, 50);
            dueUndo(x, 1, 3);
            dueUndo(x, 0, 2);
            dueThrow("a fifth undo()", STATE, x, () -> x.undo());
        });
        test("room again behind all undo()", () -> {
            RubberStamps x = limits(6);
            due("saved states", savedStates(x), 4);
            x.setLimits(60, 5);
            dueUndo(x, 0, 2);
            dueThrow("undo()", STATE, x, () -> x.undo());
        });
    }

    private static void allButTheText() {
        says("Terms, Undo: The saved state contains everything except the set text.");
        Maker maker = Checks::richWithRoom;
        test("stamps and words", () -> undoable("parse()", maker, x -> x.parse(), 2));
        test("the letters of stamps that were moved", () -> undoable("remove(0)", maker, x -> x.remove(0), 2));
        test("the letters and colors of words that were moved", () -> undoable("drop(0)", maker, x -> x.drop(0), 2));
        test("the color", () -> undoable("setColor(2, 3)", maker, x -> x.setColor(2, 3), 1));
        test("limit and load", () -> undoable("setLimits(200, 20)", maker, x -> x.setLimits(200, 20), 9));
        test("ink, amount, and the cleanings", () -> undoable("clean(0)", maker, x -> x.clean(0), 1));
        test("wear, presses and inkings", () -> undoable("write(2)", maker, x -> x.write(2), 3));
        test("a full set", () -> {
            RubberStamps x = full();
            x.undo();
            RubberStamps y = full();
            y.undo();
            y.remove(0);
            y.undo();
            dueSame("behind remove and undo", x, y);
        });
        test("the text stays when a state is restored", () -> {
            RubberStamps x = of("*a;0a;");
            x.setLimits(7, 7);
            type(x, "*b;1bb;*c;");
            x.undo();
            due("clearText()", x.clearText(), 10);
        });
        test("an emptied text stays empty", () -> {
            RubberStamps x = of("*a;0a;");
            x.setLimits(7, 7);
            x.clearText();
            x.undo();
            due("clearText()", x.clearText(), 0);
        });
        test("the text stays when a parse is undone", () -> {
            RubberStamps x = of("*a;0a;");
            x.undo();
            due("value(0)", x.value(0), 0);
            due("parse()", x.parse(), 2);
        });
    }

    // ---- Terms: exceptions

    private static void exceptions() {
        says("Terms, Exceptions: A call that throws an exception changes nothing. If several exceptions apply, the one that"
            + " is listed first is thrown.");
        Maker longest = () -> type(richWithRoom(), repeated("0abcdefghijkl;", 7) + repeated("*abcde;", 7)
            + "*z;");
        test("append: the value before the full text", () ->
            refused("append(128)", ARGUMENT, longest, x -> x.append(128)));
        test("append: the full text", () -> refused("append(97)", STATE, longest, x -> x.append(97)));
        test("cut: the word before the part and the 10 stamps", () ->
            refused("cut(7, 12, 0)", INDEX, Checks::full, x -> x.cut(7, 12, 0)));
        test("cut: the part before the 10 stamps", () ->
            refused("cut(6, 12, 1)", ARGUMENT, Checks::full, x -> x.cut(6, 12, 1)));
        test("cut: the 10 stamps", () -> refused("cut(6, 11, 1)", STATE, Checks::full, x -> x.cut(6, 11, 1)));
        test("setColor: the word before the color", () ->
            refused("setColor(7, 4)", INDEX, Checks::full, x -> x.setColor(7, 4)));
        test("stamp: the stamp before what", () -> refused("stamp(10, 6)", INDEX, Checks::full, x -> x.stamp(10, 6)));
        test("word: the word before what", () -> refused("word(7, 6)", INDEX, Checks::full, x -> x.word(7, 6)));
        test("write: the word", () -> refused("write(7)", INDEX, Checks::full, x -> x.write(7)));
        test("write: not possible", () -> refused("write(6)", STATE, Checks::full, x -> x.write(6)));
        test("order: the index before no order", () -> refused("order(7)", INDEX, Checks::full, x -> x.order(7)));
        test("order: no order", () -> refused("order(6)", STATE, Checks::full, x -> x.order(6)));
        test("setLimits: a good limit is not set with a bad load", () ->
            refused("setLimits(50, 0)", ARGUMENT, Checks::rich, x -> x.setLimits(50, 0)));
        test("setLimits: a good load is not set with a bad limit", () ->
            refused("setLimits(0, 7)", ARGUMENT, Checks::rich, x -> x.setLimits(0, 7)));
        test("undo: no saved state", () -> refused("undo()", STATE, () -> {
            RubberStamps x = rich();
            savedStates(x);
            return x;
        }, x -> x.undo()));
    }

    // ---- Promise 25

    private static void undo() {
        says("Promise 25, undo: Restores the most recently saved state and removes it from the saved states. Returns the"
            + " number of saved states that remain.");
        test("3 to 0", () -> {
            RubberStamps x = rich();
            for (int left = 3; left >= 0; left--) {
                due("undo()", x.undo(), left);
            }
        });
        test("0 of one", () -> due("undo()", limits(1).undo(), 0));
        test("each state in turn", () -> {
            RubberStamps x = of("*a;0aaa;");
            x.write(0);
            x.setColor(0, 2);
            x.write(0);
            dueStamp(x, 0, 2, 2, 6);
            dueCounts(x, 6, 2, 1);
            x.undo();
            dueStamp(x, 0, 0, 2, 3);
            dueCounts(x, 3, 1, 0);
            due("color", x.word(0, 1), 2);
            x.undo();
            due("color", x.word(0, 1), 0);
            x.undo();
            dueStamp(x, 0, NONE, 0, 0);
            due("words", x.value(1), 1);
            x.undo();
            due("words", x.value(1), 0);
            due("stamps", x.value(0), 0);
        });

        says("Promise 25, undo: Throws IllegalStateException if there is no saved state.");
        test("a new object", () -> refused("undo()", STATE, RubberStamps::new, x -> x.undo()));
        test("append and clearText save none", () -> {
            RubberStamps x = type(new RubberStamps(), "*a;");
            x.clearText();
            dueThrow("undo()", STATE, x, () -> x.undo());
        });
        test("all are taken", () -> {
            RubberStamps x = rich();
            savedStates(x);
            dueThrow("undo()", STATE, x, () -> x.undo());
        });
    }

    private static void undoAgain() {
        says("Promise 25, undo: undo is not undoable itself, and what is saved does not change any more.");
        test("undo() of undo() goes on backwards", () -> {
            RubberStamps x = limits(3);
            dueUndo(x, 2, 2);
            dueUndo(x, 1, 1);
        });
        test("calls behind undo() leave the older states alone", () -> {
            RubberStamps x = of("*ab;*c;0abc;1cab;");
            x.write(0);
            x.write(1);
            x.undo();
            x.write(1);
            x.remove(0);
            x.undo();
            x.undo();
            dueStamp(x, 0, 0, 4, 1);
            x.undo();
            dueStamp(x, 0, NONE, 0, 0);
            dueText("stamp 0", stampText(x, 0), "ab");
        });
        test("a stamp that comes back has its plans again", () -> {
            RubberStamps x = of("*a;*b;0ab;");
            x.remove(0);
            due("word(0, 2)", x.word(0, 2), NONE);
            x.undo();
            dueText("plan", planText(x, 0), "0 1");
        });
        test("a cut stamp that goes has no plans any more", () -> {
            RubberStamps x = of("0ab;");
            x.cut(0, 0, 2);
            due("word(0, 2)", x.word(0, 2), 1);
            x.undo();
            due("word(0, 2)", x.word(0, 2), NONE);
        });
        test("a word that comes back has its plan again", () -> {
            RubberStamps x = of("*a;*b;0a;0b;");
            x.drop(0);
            dueText("plan of b", planText(x, 0), "1");
            x.undo();
            dueText("plan of a", planText(x, 0), "0");
            dueText("plan of b", planText(x, 1), "1");
        });
    }

    // ---- Promise 26

    /** The hash of all numbers that the document lists, kept to 64 bits only at the end. */
    private static BigInteger wholeHash(RubberStamps x, int textLength, int saved) {
        BigInteger[] h = {BigInteger.valueOf(3389)};
        add(h, textLength);
        for (int what = 0; what <= 8; what++) {
            add(h, x.value(what));
        }
        for (int s = 0; s < x.value(0); s++) {
            for (int what = 0; what <= 5; what++) {
                add(h, x.stamp(s, what));
            }
            for (char c : stampText(x, s).toCharArray()) {
                add(h, c - 'a');
            }
        }
        for (int w = 0; w < x.value(1); w++) {
            for (int what = 0; what <= 5; what++) {
                add(h, x.word(w, what));
            }
            for (char c : wordText(x, w).toCharArray()) {
                add(h, c - 'a');
            }
            for (int i = 0; i < x.word(w, 2); i++) {
                add(h, x.press(w, i));
            }
        }
        add(h, x.fewest());
        add(h, saved);
        return h[0];
    }

    private static void add(BigInteger[] hash, int value) {
        hash[0] = hash[0].multiply(BigInteger.valueOf(31)).add(BigInteger.valueOf(value));
    }

    /** One object is asked for its digest and another one, made alike, for the numbers of which it is made. */
    private static void dueDigest(Maker maker, int textLength, int saved) {
        due("digest()", maker.make().digest(), wholeHash(maker.make(), textLength, saved).longValue());
    }

    private static void digestStart() {
        says("Promise 26, digest: Start with h = 3389 and, for each of the following values v, set h = 31 * h + v.");
        test("a new object", () -> {
            long h = 3389;
            for (int v : new int[] {0, 0, 0, 100, 5, 0, 0, 0, 0, 0, 0, 0}) {
                h = 31 * h + v;
            }
            due("digest()", new RubberStamps().digest(), h);
        });
        test("one stamp", () -> dueDigest(() -> of("*a;"), 3, 1));
        test("one word without a plan: NONE is -1", () -> {
            long h = 3389;
            int[] values = {3, 0, 1, 100, 5, 0, 0, 0, 0, 0, 1, 0, -1, 0, -1, -1, 0, -1, 1};
            for (int v : values) {
                h = 31 * h + v;
            }
            due("digest()", of("0a;").digest(), h);
        });
        test("one stamp and one word", () -> {
            long h = 3389;
            int[] values = {6, 1, 1, 100, 5, 0, 0, 0, 0, 1, 1, -1, 0, 0, 0, 0, 0, 1, 2, 1, 1, 1, 0, 0, 0, 1, 1};
            for (int v : values) {
                h = 31 * h + v;
            }
            due("digest()", of("*a;2a;").digest(), h);
        });
    }

    private static void digestParts() {
        says("Promise 26, digest: the length of the text");
        test("0", () -> dueDigest(RubberStamps::new, 0, 0));
        test("1", () -> dueDigest(() -> type(new RubberStamps(), "a"), 1, 0));
        test("150", () -> dueDigest(() -> type(new RubberStamps(), repeated("a", 150)), 150, 0));
        test("the bytes themselves do not count", () ->
            due("digest()", type(new RubberStamps(), "zz").digest(), type(new RubberStamps(), "ab").digest()));

        says("Promise 26, digest: for each stamp the values of stamp() and the letters that it prints straight; for each word"
            + " the values of word(), its letters, and all presses of its best plan.");
        test("a rich set", () -> dueDigest(Checks::rich, 7, 4));
        test("10 stamps of 1 letter and 7 words of 1", () -> dueDigest(() -> of(TEN + SEVEN), 51, 1));
        test("10 stamps of 5 letters and 7 words of 12", () -> dueDigest(Checks::full, 147, 4));
        test("a plan of 12 presses", () -> dueDigest(() -> of("*b;*a;0aaaaaaaaaaaa;"), 20, 1));
        test("a turned press", () -> dueDigest(() -> of("*u;0n;"), 6, 1));
        test("a plan that is not possible", () -> dueDigest(() -> of("*u;*a;0anna;", 1, 5), 12, 2));
        test("a stamp that is worn out, and no plan", () -> dueDigest(() -> {
            RubberStamps x = of("*a;3a;", 1, 1);
            x.write(0);
            return x;
        }, 6, 3));

        says("Promise 26, digest: fewest()");
        test("0 without words", () -> dueDigest(() -> of("*a;*b;"), 6, 1));
        test("1023", () -> dueDigest(() -> of(TEN + "0abcdefghij;"), 42, 1));
        test("NONE", () -> dueDigest(() -> of("*a;0b;"), 6, 1));

        says("Promise 26, digest: the number of saved states");
        for (int n = 0; n <= 5; n++) {
            int saved = n;
            test(n + " calls", () -> dueDigest(() -> limits(saved), 0, saved < 4 ? saved : 4));
        }
        test("one less behind undo()", () -> dueDigest(() -> {
            RubberStamps x = limits(5);
            x.undo();
            return x;
        }, 0, 3));
    }

    private static void digestOverflow() {
        says("Promise 26, digest: Returns the hash, with the overflow of long arithmetic ignored.");
        test("a new object wraps around", () -> {
            BigInteger h = wholeHash(new RubberStamps(), 0, 0);
            due("bits beyond 63", h.bitLength() > 63 ? 1 : 0, 1);
            due("digest()", new RubberStamps().digest(), h.longValue());
        });
        test("a full set wraps around many times", () -> {
            BigInteger h = wholeHash(full(), 147, 4);
            due("bits beyond 1000", h.bitLength() > 1000 ? 1 : 0, 1);
            due("digest()", full().digest(), h.longValue());
        });
        test("a hash below 0, and one above", () -> {
            boolean below = false;
            boolean above = false;
            for (int n = 0; n < 40; n++) {
                RubberStamps x = of(TEN.substring(0, n % 11 * 3) + SEVEN.substring(0, n % 8 * 3));
                long h = wholeHash(x, n % 11 * 3 + n % 8 * 3, 1).longValue();
                due("digest()", x.digest(), h);
                below |= h < 0;
                above |= h > 0;
            }
            due("both signs", below && above ? 1 : 0, 1);
        });
    }

    private static void digestIsAsked() {
        says("Promise 26, digest: it changes nothing.");
        test("a rich set", () -> dueSame("behind digest()", digested(rich()), rich()));
        test("a full set", () -> dueSame("behind digest()", digested(full()), full()));
        test("a new object", () -> dueSame("behind digest()", digested(new RubberStamps()), new RubberStamps()));
        test("twice", () -> {
            RubberStamps x = full();
            due("digest()", x.digest(), x.digest());
        });
    }

    private static RubberStamps digested(RubberStamps x) {
        x.digest();
        return x;
    }

    private static void manyCalls() {
        says("What it is: An object is used for at most 512 calls after it has been made.");
        test("the 512th call, behind many that write and take back", () -> {
            // 16 calls make the set, 492 write and take back, and 3 ask.
            RubberStamps x = type(new RubberStamps(), "*a;*b;0ab;1ba;");
            x.parse();
            for (int i = 0; i < 123; i++) {
                x.write(i % 2);
                x.undo();
                x.write(1);
                x.undo();
            }
            dueCounts(x, 0, 0, 0);
            RubberStamps y = of("*a;*b;0ab;1ba;");
            due("the 512th digest()", x.digest(), y.digest());
        });
        test("the 512th call, behind many that write", () -> {
            // 25 calls make the set, and 486 write, as long as a stamp is left.
            RubberStamps x = type(new RubberStamps(), "*aaa;*a;0aaaaaaaaaaaa;");
            x.parse();
            x.setLimits(200, 20);
            int written = 0;
            for (int i = 0; i < 486; i++) {
                written += x.writeAll();
            }
            // 50 times the stamp 0 presses 4 times, then 16 times the stamp 1 presses 12 times.
            due("words", written, 66);
            due("the 512th call", x.value(4), 50 * 4 + 16 * 12);
        });
    }
}
