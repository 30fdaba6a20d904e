import java.io.IOException;
import java.lang.reflect.Constructor;
import java.lang.reflect.Field;
import java.lang.reflect.Method;
import java.lang.reflect.Modifier;
import java.nio.file.Files;
import java.nio.file.Path;
import java.util.Arrays;
import java.util.List;
import java.util.TreeSet;
import java.util.regex.Pattern;

/** The public face is the document's and no more, and the source keeps to the rules that can be seen by its words. */
public final class FaceTest {
    private static final List<String> FACE = List.of(
        "int state(int)", "boolean set(int,int,int)", "int put(int,int,int,int)", "boolean act(int,int,int)",
        "int days(int)", "int feed(int,int,int,int,int)", "boolean end(int)", "int text(int)", "int fault(int)",
        "int inch(int,int)", "int of(int,int)", "int book(int,int)", "int goes(int,int)", "int nearest(int)",
        "int heaps(int)", "int kind(int)", "int says(int)", "int pass(int,int)", "int words(int,int)", "int legs(int)",
        "int order(int)", "int sight(int)", "int cover(int)", "int vein(int,int,int)", "int wings(int)",
        "int weekday(int)", "int between(int,int)", "int leans(int)", "int go(int)", "int squires(int)",
        "int held(int,int,int)", "int game(int)", "boolean undo()", "boolean image(boolean)", "int look(int)");
    private static final List<String> WORDS = List.of("throw", "throws", "try", "catch", "synchronized", "assert",
        "while", "random", "System\\.(?!arraycopy)", "->", "::", "import (?!java\\.util\\.Arrays;)");

    private FaceTest() {
    }

    public static void main(String[] args) throws IOException {
        Check check = new Check("FaceTest");
        members(check);
        inside(check);
        String source = Files.readString(Path.of("src/main/java/StuckRecord.java"));
        for (String word : WORDS) {
            String whole = Character.isLetter(word.charAt(0)) ? "\\b" + word + (word.endsWith(")") ? "" : "\\b") : word;
            check.due("the source has " + word, Pattern.compile(whole).matcher(source).find(), false);
        }
        check.due("signs above 127", source.chars().anyMatch(c -> c > 127), false);
        check.finish();
    }

    private static void members(Check check) {
        TreeSet<String> shown = new TreeSet<>();
        TreeSet<String> hidden = new TreeSet<>();
        for (Method m : StuckRecord.class.getDeclaredMethods()) {
            boolean open = Modifier.isPublic(m.getModifiers());
            check.due(m + " is public or private", open || Modifier.isPrivate(m.getModifiers()), true);
            String row = Arrays.toString(m.getParameterTypes()).replace(" ", "");
            if (open) shown.add(m.getReturnType() + " " + m.getName() + "(" + row.substring(1, row.length() - 1) + ")");
            if (!open) hidden.add(m.getName());
        }
        check.due("the methods " + shown, shown.equals(new TreeSet<>(FACE)), true);
        for (String face : shown) {
            String name = face.substring(face.indexOf(' ') + 1, face.indexOf('('));
            check.due("a private " + name, hidden.contains(name), false);
        }
        for (Field f : StuckRecord.class.getDeclaredFields()) {
            check.due(f + " is private or NONE", Modifier.isPrivate(f.getModifiers()) || f.getName().equals("NONE"), true);
        }
        for (Constructor<?> c : StuckRecord.class.getDeclaredConstructors()) {
            check.due(c + " is public", Modifier.isPublic(c.getModifiers()) && c.getParameterCount() == 0, true);
        }
        check.due("final", Modifier.isFinal(StuckRecord.class.getModifiers()), true);
    }

    private static void inside(Check check) {
        Class<?>[] classes = StuckRecord.class.getDeclaredClasses();
        check.due("few classes", classes.length <= 12, true);
        for (Class<?> c : classes) {
            check.due(c + " is static", Modifier.isStatic(c.getModifiers()), true);
            check.due(c + " is not open", Modifier.isPublic(c.getModifiers()) || Modifier.isProtected(c.getModifiers()), false);
            int own = 0;
            for (Field f : c.getDeclaredFields()) {
                boolean still = Modifier.isStatic(f.getModifiers());
                check.due(f + " is final if static", !still || Modifier.isFinal(f.getModifiers()), true);
                own += still ? 0 : 1;
            }
            check.due(c + " has few fields", own <= 20, true);
            for (Method m : c.getDeclaredMethods()) {
                check.due(m + " takes seven at most", m.getParameterCount() <= 7, true);
            }
        }
    }
}
