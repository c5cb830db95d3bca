/** The example of README.md, call by call, with the answers that stand behind its calls. */
public final class ReadmeTest extends Checks {
    public static void main(String[] args) {
        says("README.md, Use");
        RubberStamps set = new RubberStamps();
        String text = "*no;*u;0noun;2on;";
        for (int i = 0; i < text.length(); i++) {
            set.append(text.charAt(i));
        }
        due("set.parse()", set.parse(), 4);
        due("set.word(0, 2)", set.word(0, 2), 3);
        due("set.press(0, 2)", set.press(0, 2), 3);
        due("set.write(0)", set.write(0), 3);
        due("set.stamp(1, 3)", set.stamp(1, 3), 2);
        due("set.word(1, 2)", set.word(1, 2), NONE);
        dueThrow("set.write(1)", STATE, set, () -> set.write(1));
        due("set.bestCut(0, 5)", set.bestCut(0, 5), 1);
        due("set.cut(1, 0, 2)", set.cut(1, 0, 2), 2);
        due("set.leastCleanings()", set.leastCleanings(), 0);
        due("set.writeAll()", set.writeAll(), 2);
        due("set.undo()", set.undo(), 3);
        end("the example of README.md");
    }
}
