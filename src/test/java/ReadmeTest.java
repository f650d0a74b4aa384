import java.io.IOException;
import java.lang.reflect.Method;
import java.lang.reflect.Modifier;
import java.nio.file.Files;
import java.nio.file.Path;
import java.util.ArrayList;
import java.util.Arrays;
import java.util.List;
import java.util.regex.Matcher;
import java.util.regex.Pattern;
import java.util.stream.Stream;

/** README.md says nothing that does not hold, and leaves no call and no test out. */
public final class ReadmeTest {
    private static final Check CHECK = new Check("ReadmeTest");
    private static final Pattern CALL = Pattern.compile("(?m)^desk\\.(\\w+)\\((.*?)\\); +// .*: (-?\\d+)$");
    private static final Pattern LINE = Pattern.compile("(?m)^\\| `((?:dealer|sale|rate|lot|buyin|mark|rule) [^`]*)` \\|");

    public static void main(String[] args) throws IOException, ReflectiveOperationException {
        String page = Files.readString(Path.of("README.md"));
        example(page);
        linesOfText(page);
        namesAll(page);
        CHECK.end();
    }

    private static void example(String page) throws ReflectiveOperationException {
        FailDesk desk = new FailDesk();
        Matcher calls = CALL.matcher(page);
        int made = 0;
        while (calls.find()) {
            int[] numbers = Arrays.stream(calls.group(2).split(", ")).filter(s -> !s.isEmpty())
                    .mapToInt(Integer::decode).toArray();
            CHECK.due(calls.group(), call(desk, calls.group(1), numbers), Long.parseLong(calls.group(3)));
            made++;
        }
        long written = page.lines().filter(line -> line.startsWith("desk.")).count();
        CHECK.due("calls of the example with an answer", made, written);
        CHECK.due("there is an example", made > 10 ? 1 : 0, 1);
    }

    private static long call(FailDesk desk, String name, int[] numbers) throws ReflectiveOperationException {
        Class<?>[] kinds = new Class<?>[numbers.length];
        Arrays.fill(kinds, int.class);
        Object[] given = Arrays.stream(numbers).boxed().toArray();
        return ((Number) FailDesk.class.getMethod(name, kinds).invoke(desk, given)).longValue();
    }

    /** The lines of the table make one text; a sale needs the dealers ahead of it. */
    private static void linesOfText(String page) {
        List<String> lines = new ArrayList<>();
        Matcher rows = LINE.matcher(page);
        while (rows.find()) {
            lines.add(rows.group(1));
        }
        CHECK.due("kinds of lines", lines.size(), 7);
        FailDesk desk = new FailDesk();
        CHECK.due("text of all lines", Check.tell(desk, "dealer 0; " + String.join("; ", lines) + ";"), 1);
        CHECK.due("told by it: rate", desk.told(4), 50);
        CHECK.due("told by it: lot", desk.told(5), 10);
        CHECK.due("told by it: buyin", desk.told(6), 2);
        CHECK.due("told by it: mark", desk.told(3), 130);
        CHECK.due("told by it: rule", desk.rule(0), 960);
    }

    private static void namesAll(String page) throws IOException {
        for (Method m : FailDesk.class.getDeclaredMethods()) {
            if (Modifier.isPublic(m.getModifiers())) {
                boolean named = Pattern.compile("`" + m.getName() + "(\\(\\w*\\))?`").matcher(page).find();
                CHECK.due("README.md names " + m.getName(), named ? 1 : 0, 1);
            }
        }
        try (Stream<Path> files = Files.list(Path.of("src/test/java"))) {
            for (Path file : files.filter(f -> f.toString().endsWith("Test.java")).toList()) {
                String name = file.getFileName().toString().replace(".java", "");
                CHECK.due("README.md names " + name, page.contains("| `" + name + "` |") ? 1 : 0, 1);
            }
        }
    }
}
