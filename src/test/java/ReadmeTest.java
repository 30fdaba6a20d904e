import java.io.IOException;
import java.lang.reflect.Method;
import java.nio.file.Files;
import java.nio.file.Path;
import java.util.ArrayList;
import java.util.Collections;
import java.util.List;
import java.util.regex.Matcher;
import java.util.regex.Pattern;

/** README.md tells of each call of the face, once, and its examples answer what they say. */
public final class ReadmeTest {
    private static final Pattern ROW = Pattern.compile("^\\| `(\\w+)\\(([^)]*)\\)` \\| (.*) \\| (.*?) ?\\|$");

    private ReadmeTest() {
    }

    public static void main(String[] args) throws IOException {
        Check check = new Check("ReadmeTest");
        rows(check, Files.readAllLines(Path.of("README.md")));
        thingExample(check);
        textExample(check);
        check.finish();
    }

    private static void rows(Check check, List<String> lines) {
        List<String> told = new ArrayList<>();
        for (String line : lines) {
            Matcher row = ROW.matcher(line);
            if (!row.matches()) {
                continue;
            }
            int takes = row.group(2).isEmpty() ? 0 : row.group(2).split(", ").length;
            told.add(row.group(1) + " " + takes);
            boolean canAlways = row.group(1).equals("StuckRecord") || row.group(1).equals("state");
            check.due(row.group(1) + ": what it is for", !row.group(3).isBlank(), true);
            check.due(row.group(1) + ": what it answers when it can't be", !row.group(4).isBlank() || canAlways, true);
        }
        List<String> face = new ArrayList<>(List.of("StuckRecord 0"));
        for (Method m : StuckRecord.class.getMethods()) {
            if (m.getDeclaringClass() == StuckRecord.class) {
                face.add(m.getName() + " " + m.getParameterCount());
            }
        }
        Collections.sort(told);
        Collections.sort(face);
        check.due("the rows " + told, told.equals(face), true);
    }

    private static void thingExample(Check check) {
        Counted x = new Counted();
        check.due("put(0, 3, 5, 10)", x.put(0, 3, 5, 10), 0);
        check.due("set(5, 0, 4)", x.set(5, 0, 4), true);
        check.due("days(2)", x.days(2), 0);
        check.due("of(0, 3)", x.of(0, 3), 12);
        check.due("undo()", x.undo(), true);
        check.due("of(0, 3) after undo()", x.of(0, 3), 11);
    }

    private static void textExample(Check check) {
        Counted x = new Counted();
        check.due("feed", x.feed(0x736c6964, 0x65732032, 0x3b202020, 0x20202020, 0x20202020), 20);
        check.due("end(9)", x.end(9), true);
        check.due("text(0)", x.text(0), 1);
        check.due("fault(0)", x.fault(0), 0);
        check.due("fault(1)", x.fault(1), -1);
        x.put(0, 1, 0, 0);
        check.due("of(0, 8)", x.of(0, 8), 2);
    }
}
