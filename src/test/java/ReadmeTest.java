import java.io.IOException;
import java.lang.reflect.Field;
import java.lang.reflect.Method;
import java.lang.reflect.Modifier;
import java.nio.file.Files;
import java.nio.file.Path;
import java.util.regex.Matcher;
import java.util.regex.Pattern;
import java.util.stream.Stream;

/** README.md says what is so: its example answers as told there, and nothing of the class is left out. */
public final class ReadmeTest {
    private static final Due DUE = new Due();
    private static final Pattern TOLD = Pattern.compile("for \\(char sign : \"([^\"]*)\"");
    private static final Pattern CALL = Pattern.compile("ink\\.(\\w+)\\(([-0-9, ]*)\\);\\s*// (-?\\d+):");

    public static void main(String[] args) throws IOException, ReflectiveOperationException {
        String page = Files.readString(Path.of("README.md"));
        example(page.substring(page.indexOf("```java"), page.lastIndexOf("```")));
        forms();
        names(page);
        files(page);
        DUE.end();
    }

    private static void example(String code) throws ReflectiveOperationException {
        InkTaken ink = new InkTaken();
        Matcher told = TOLD.matcher(code);
        DUE.is("a text is told", told.find(), true);
        Due.feed(ink, told.group(1));
        int calls = 0;
        for (Matcher line = CALL.matcher(code); line.find(); calls++) {
            String name = line.group(1) + "(" + line.group(2) + ")";
            DUE.is("README: " + name, answer(ink, line.group(1), line.group(2)), Integer.parseInt(line.group(3)));
        }
        long rows = code.lines().filter(line -> line.startsWith("ink.")).count();
        DUE.is("README: every row has its answer", calls, rows);
    }

    private static int answer(InkTaken ink, String name, String list) throws ReflectiveOperationException {
        String[] parts = list.isBlank() ? new String[0] : list.split(",");
        Class<?>[] types = new Class<?>[parts.length];
        Object[] numbers = new Object[parts.length];
        for (int i = 0; i < parts.length; i++) {
            types[i] = int.class;
            numbers[i] = Integer.parseInt(parts[i].trim());
        }
        return (int) InkTaken.class.getMethod(name, types).invoke(ink, numbers);
    }

    /** The bounds that the page tells of a text: the least and the most of each are read. */
    private static void forms() {
        DUE.is("the least", Due.read(new InkTaken(), "i1,1;s0;"), 1);
        String most = "i99,99;p9;r9;h9;l9;" + "w5,3,9;".repeat(10) + "a63,0,20;y63,1,20;";
        DUE.is("the most", Due.read(new InkTaken(), most), 4);
    }

    private static void names(String page) {
        for (Method one : InkTaken.class.getDeclaredMethods()) {
            boolean open = Modifier.isPublic(one.getModifiers());
            if (open) DUE.is("README names " + one.getName(), page.contains("`" + one.getName() + "`"), true);
        }
        for (Field one : InkTaken.class.getFields()) {
            DUE.is("README names " + one.getName(), page.contains("| `" + one.getName() + "` |"), true);
        }
        for (int number = InkTaken.NONE; number >= InkTaken.FULL; number--) {
            DUE.is("README names " + number, page.contains("| " + number + " |"), true);
        }
        for (Class<?> one : InkTaken.class.getDeclaredClasses()) {
            DUE.is("README names " + one.getSimpleName(), page.contains("| `" + one.getSimpleName() + "` |"), true);
        }
    }

    private static void files(String page) throws IOException {
        try (Stream<Path> tests = Files.list(Path.of("src/test/java"))) {
            for (Path one : tests.toList()) {
                String name = one.getFileName().toString().replace(".java", "");
                if (name.endsWith("Test")) DUE.is("README names " + name, page.contains("| `" + name + "` |"), true);
            }
        }
    }
}
