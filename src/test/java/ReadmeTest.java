import java.io.IOException;
import java.lang.reflect.Field;
import java.lang.reflect.Method;
import java.lang.reflect.Modifier;
import java.nio.file.Files;
import java.nio.file.Path;
import java.util.List;
import java.util.Set;
import java.util.TreeSet;
import java.util.regex.Matcher;
import java.util.regex.Pattern;
import java.util.stream.Stream;

/** What README.md says of the class and of its tests holds. */
public final class ReadmeTest {
    private static final Path PAGE = Path.of("README.md"), DOCUMENT = Path.of("../shared/DOC.md"), TESTS = Path.of("src/test/java");
    private static final Pattern CALL = Pattern.compile("x\\.([A-Za-z]+)\\(([^)]*)\\);\\s+// (-?[0-9]+|[A-Z]+)(: .*)?");

    public static void main(String[] args) throws Exception {
        String page = Files.readString(PAGE);
        example(page);
        calls(page);
        constants(page);
        tests(page);
        Asking.end("readme");
    }

    // ---- the example: each of its calls answers what stands behind it

    private static void example(String page) throws Exception {
        int from = page.indexOf("```java\n");
        int to = page.indexOf("```", from + 8);
        Asking.due("an example", from >= 0 && to > from ? 1 : 0, 1);
        if (from < 0 || to < 0) {
            return;
        }
        List<String> lines = page.substring(from + 8, to).lines().toList();
        Asking.due("it makes an object", lines.get(0).startsWith("PairsStand x = new PairsStand();") ? 1 : 0, 1);
        PairsStand x = new PairsStand();
        for (String line : lines.subList(1, lines.size())) {
            Matcher call = CALL.matcher(line);
            if (call.matches()) {
                Asking.is(x, answer(call.group(3)), call.group(1), values(call.group(1), call.group(2)));
            } else {
                Asking.fail("no call with its answer: " + line);
            }
        }
    }

    private static long answer(String word) throws Exception {
        return Character.isUpperCase(word.charAt(0)) ? PairsStand.class.getField(word).getInt(null) : Long.parseLong(word);
    }

    private static Object[] values(String call, String told) {
        String[] each = told.isEmpty() ? new String[0] : told.split(", ");
        Object[] values = new Object[each.length];
        for (Method m : PairsStand.class.getDeclaredMethods()) {
            for (int i = 0; i < each.length && m.getName().equals(call); i++) {
                boolean isLong = m.getParameterTypes()[i] == long.class;
                values[i] = isLong ? (Object) Long.decode(each[i].replace("L", "")) : (Object) Integer.valueOf(each[i]);
            }
        }
        return values;
    }

    // ---- what it names

    /** Every call of the document's face, by its name and its arguments', under the document's heading. */
    private static void calls(String page) throws IOException {
        String document = Files.readString(DOCUMENT);
        Matcher head = Pattern.compile("    public (?:int|long) ([A-Za-z]+)\\(([^)]*)\\);").matcher(document);
        int found = 0;
        while (head.find()) {
            found++;
            String shown = "| `" + head.group(1) + "(" + head.group(2).replaceAll("\\b(int|long) ", "") + ")` |";
            Asking.due("the page has " + shown, page.contains(shown) ? 1 : 0, 1);
            String before = page.substring(0, Math.max(0, page.indexOf(shown)));
            int group = before.lastIndexOf("\n\n| ");
            String heading = group < 0 ? "" : before.substring(group + 4, before.indexOf(" | |", group));
            Matcher ahead = Pattern.compile("Ahead of the calls [^\n]*`" + head.group(1) + "`[^\n]*---- ([^\n]*)\\.").matcher(document);
            Asking.due(shown + " stands under " + heading, ahead.find() && ahead.group(1).equals(heading) ? 1 : 0, 1);
        }
        Asking.due("how many calls", found, 44);
    }

    private static void constants(String page) throws Exception {
        int found = 0;
        for (Field f : PairsStand.class.getDeclaredFields()) {
            if (Modifier.isPublic(f.getModifiers())) {
                found++;
                String shown = "| `" + f.getName() + "` | " + f.getInt(null) + " |";
                Asking.due("the page has " + shown, page.contains(shown) ? 1 : 0, 1);
            }
        }
        Asking.due("how many constants", found, 9);
    }

    private static void tests(String page) throws IOException {
        Set<String> there = new TreeSet<>();
        try (Stream<Path> files = Files.list(TESTS)) {
            files.forEach(f -> there.add(f.getFileName().toString().replace(".java", "")));
        }
        Set<String> named = new TreeSet<>();
        Matcher line = Pattern.compile("(?m)^- `([A-Za-z]+)`: ").matcher(page);
        while (line.find()) {
            named.add(line.group(1));
        }
        Asking.due("the page names " + named + ", there are " + there, named.equals(there) ? 1 : 0, 1);
        Asking.due("how to run them", page.contains("Run `.ci/run`") ? 1 : 0, 1);
    }
}
