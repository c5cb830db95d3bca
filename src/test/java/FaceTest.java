import java.lang.reflect.Constructor;
import java.lang.reflect.Field;
import java.lang.reflect.Method;
import java.lang.reflect.Modifier;
import java.util.ArrayList;
import java.util.List;
import java.util.Set;
import java.util.TreeSet;

/** The public face is the document's, with nothing more, and no private method bears a public one's name. */
public final class FaceTest {
    private static final String[] FACE = {
        "public int append(int) throws java.lang.IllegalArgumentException,java.lang.IllegalStateException",
        "public int clearText()",
        "public int parse()",
        "public int cut(int,int,int) throws java.lang.IndexOutOfBoundsException,"
            + "java.lang.IllegalArgumentException,java.lang.IllegalStateException",
        "public int remove(int) throws java.lang.IndexOutOfBoundsException",
        "public int drop(int) throws java.lang.IndexOutOfBoundsException",
        "public int setColor(int,int) throws java.lang.IndexOutOfBoundsException,java.lang.IllegalArgumentException",
        "public int setLimits(int,int) throws java.lang.IllegalArgumentException",
        "public int clean(int) throws java.lang.IndexOutOfBoundsException",
        "public int value(int) throws java.lang.IllegalArgumentException",
        "public int stamp(int,int) throws java.lang.IndexOutOfBoundsException,java.lang.IllegalArgumentException",
        "public int print(int,int,boolean) throws java.lang.IndexOutOfBoundsException",
        "public int word(int,int) throws java.lang.IndexOutOfBoundsException,java.lang.IllegalArgumentException",
        "public int letter(int,int) throws java.lang.IndexOutOfBoundsException",
        "public int press(int,int) throws java.lang.IndexOutOfBoundsException",
        "public int write(int) throws java.lang.IndexOutOfBoundsException,java.lang.IllegalStateException",
        "public int writeAll()",
        "public int fewest()",
        "public int needed(int) throws java.lang.IndexOutOfBoundsException",
        "public int order(int) throws java.lang.IndexOutOfBoundsException,java.lang.IllegalStateException",
        "public int leastCleanings()",
        "public int bestCut(int,int) throws java.lang.IllegalArgumentException",
        "public double lettersPerPress()",
        "public int undo() throws java.lang.IllegalStateException",
        "public long digest()",
    };

    public static void main(String[] args) {
        List<String> wrong = new ArrayList<>();
        Class<?> face = RubberStamps.class;
        if (face.getModifiers() != (Modifier.PUBLIC | Modifier.FINAL)) {
            wrong.add("the class is not public and final alone");
        }
        checkMethods(face, wrong);
        for (Field f : face.getDeclaredFields()) {
            boolean none = f.getName().equals("NONE");
            if (Modifier.isPrivate(f.getModifiers()) == none) {
                wrong.add("field " + f);
            }
            if (Modifier.isStatic(f.getModifiers()) && !Modifier.isFinal(f.getModifiers())) {
                wrong.add("static state " + f);
            }
        }
        Constructor<?>[] made = face.getDeclaredConstructors();
        if (made.length != 1 || !made[0].toGenericString().equals("public RubberStamps()")) {
            wrong.add("the constructors");
        }
        for (Class<?> inside : face.getDeclaredClasses()) {
            int m = inside.getModifiers();
            if (!Modifier.isStatic(m) || Modifier.isPublic(m) || Modifier.isProtected(m)) {
                wrong.add("class " + inside);
            }
        }
        for (String w : wrong) {
            System.out.println("not as due: " + w);
        }
        System.out.println(wrong.isEmpty() ? "the face is as due" : wrong.size() + " things are not as due");
        if (!wrong.isEmpty()) {
            System.exit(1);
        }
    }

    private static void checkMethods(Class<?> face, List<String> wrong) {
        Set<String> due = new TreeSet<>(List.of(FACE));
        Set<String> got = new TreeSet<>();
        Set<String> publicNames = new TreeSet<>();
        for (Method m : face.getDeclaredMethods()) {
            if (!Modifier.isPrivate(m.getModifiers()) && !m.isSynthetic()) {
                got.add(m.toString().replace("RubberStamps.", ""));
                publicNames.add(m.getName());
            }
        }
        if (!got.equals(due)) {
            wrong.add("the methods " + got + ", due are " + due);
        }
        List<Class<?>> all = new ArrayList<>(List.of(face.getDeclaredClasses()));
        all.add(face);
        for (Class<?> c : all) {
            for (Method m : c.getDeclaredMethods()) {
                if (Modifier.isPrivate(m.getModifiers()) && publicNames.contains(m.getName())) {
                    wrong.add("the private method " + m);
                }
            }
        }
    }
}
