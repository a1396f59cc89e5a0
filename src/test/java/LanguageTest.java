import java.io.IOException;
import java.lang.reflect.Constructor;
import java.lang.reflect.Field;
import java.lang.reflect.Method;
import java.lang.reflect.Modifier;
import java.nio.file.Files;
import java.nio.file.Path;
import java.util.ArrayList;
import java.util.List;
import java.util.Map;
import java.util.Set;
import java.util.TreeMap;
import java.util.TreeSet;
import java.util.regex.Matcher;
import java.util.regex.Pattern;

/** The face of the class, and the rules of LANGUAGE.md that can be seen without a compiler. */
public final class LanguageTest {
    private static final Due DUE = new Due();
    private static final Path SOURCE = Path.of("src/main/java/InkTaken.java");
    private static final String[] FACE = {
        "row3", "set3", "copy5", "drop1", "feed1", "archive0", "fault0", "undo0", "write3", "recall1", "days1",
        "copyOf2", "hand2", "deed2", "place2", "falls2", "ransom1", "pair1", "ahead2", "first2", "safe1", "doubles3",
        "law2", "order1", "blanks2", "forged2", "itself3", "years3", "image1", "restore1", "kind1", "as2", "ask2",
        "trace1", "count1", "status0"
    };
    private static final String[] FORBIDDEN = {
        "throw", "throws", "try", "catch", "finally", "synchronized", "assert", "var", "Object", "System\\.(?!arraycopy)",
        "->", "::", "\\w+Exact", "protected", "native", "volatile", "transient", "hashCode", "toString", "double", "float"
    };
    private static final String LIBRARY = "System\\.arraycopy|Arrays\\.(copyOf|copyOfRange|fill)|(Integer|Long|Math)\\.\\w+";
    /** A method, a constructor or a class, at the blanks by which the source sets them in. */
    private static final Pattern METHOD = Pattern.compile("( {4}| {8})(?!private static final class)(?:\\S.*? )?(\\w+)\\([^=]*\\) \\{");

    public static void main(String[] args) throws IOException {
        face();
        nested();
        words();
        lengths();
        library();
        objects();
        depths();
        DUE.end();
    }

    private static void face() {
        Set<String> due = new TreeSet<>(List.of(FACE));
        Set<String> got = new TreeSet<>();
        for (Method one : InkTaken.class.getDeclaredMethods()) {
            if (Modifier.isPrivate(one.getModifiers())) {
                DUE.is(one.getName() + " is of the face", hasName(due, one.getName()) ? 1 : 0, 0);
                continue;
            }
            DUE.is(one.getName() + " is public", one.getModifiers(), Modifier.PUBLIC);
            DUE.is(one.getName() + " answers", one.getReturnType(), int.class);
            got.add(one.getName() + one.getParameterCount());
        }
        DUE.is("methods", got, due);
        for (Constructor<?> one : InkTaken.class.getDeclaredConstructors()) {
            DUE.is("constructor", one.getModifiers() + one.getParameterCount(), Modifier.PUBLIC);
        }
        DUE.is("class", InkTaken.class.getModifiers(), Modifier.PUBLIC | Modifier.FINAL);
        int constants = 0;
        for (Field one : InkTaken.class.getDeclaredFields()) {
            boolean open = !Modifier.isPrivate(one.getModifiers());
            if (open) constants++;
            if (open) DUE.is(one.getName(), List.of("NONE", "BAD", "STATE", "FULL").contains(one.getName()), true);
        }
        DUE.is("constants", constants, 4);
    }

    private static boolean hasName(Set<String> face, String name) {
        for (String one : face) {
            if (one.substring(0, one.length() - 1).equals(name)) return true;
        }
        return false;
    }

    private static void nested() {
        Set<String> face = new TreeSet<>(List.of(FACE));
        Class<?>[] inside = InkTaken.class.getDeclaredClasses();
        DUE.is("some twelve classes", inside.length < 12, true);
        for (Class<?> one : inside) {
            DUE.is(one.getName() + " is static", Modifier.isStatic(one.getModifiers()), true);
            int fields = 0;
            for (Field field : one.getDeclaredFields()) {
                boolean still = Modifier.isStatic(field.getModifiers());
                if (still) DUE.is(field.getName() + " is final", Modifier.isFinal(field.getModifiers()), true);
                if (!still) fields++;
            }
            DUE.is(one.getName() + " has some twenty fields", fields <= 20, true);
            for (Method method : one.getDeclaredMethods()) {
                DUE.is(method.getName() + " is of the face", hasName(face, method.getName()), false);
                DUE.is(method.getName() + " takes seven at most", method.getParameterCount() <= 7, true);
            }
        }
    }

    private static String code() throws IOException {
        return Files.readString(SOURCE).replaceAll("(?s)/\\*.*?\\*/", "").replaceAll("//[^\n]*", "");
    }

    private static void words() throws IOException {
        String source = code();
        for (String word : FORBIDDEN) {
            boolean letters = Character.isLetter(word.charAt(0));
            Pattern pattern = Pattern.compile(letters ? "\\b" + word + "\\b" : word);
            DUE.is("there is " + word, pattern.matcher(source).find(), false);
        }
        for (char one : source.toCharArray()) {
            if (one > 126) DUE.is("sign " + (int) one, false, true);
        }
    }

    /** Rule 4: the library, and what is brought in of it. */
    private static void library() throws IOException {
        String source = code();
        for (Matcher one = Pattern.compile("import ([^;]+);").matcher(source); one.find();) {
            DUE.is("import of " + one.group(1), one.group(1).matches("java\\.util\\.(Arrays|ArrayList|List|Iterator)"), true);
        }
        Set<String> own = new TreeSet<>();
        for (Class<?> one : InkTaken.class.getDeclaredClasses()) own.add(one.getSimpleName());
        for (Matcher one = Pattern.compile("\\b([A-Z]\\w*)\\.(\\w+)\\(").matcher(source); one.find();) {
            String called = one.group(1) + "." + one.group(2);
            DUE.is(called + " is of the library", own.contains(one.group(1)) || called.matches(LIBRARY), true);
        }
    }

    /** All that is made is made with an object: "new" stands in the first value of a field alone. */
    private static void objects() throws IOException {
        for (String line : code().split("\n")) {
            if (!line.matches(".*\\bnew\\b.*")) continue;
            DUE.is("made with the object: " + line.strip(), line.matches("\\s+(private )?final [\\w\\[\\]]+ \\w+ = new .*;"), true);
        }
    }

    /** Rule 11: calls that are no recursion go at most eight deep. Methods of one name are taken as one. */
    private static void depths() throws IOException {
        Map<String, String> bodies = new TreeMap<>();
        String name = "";
        for (String line : code().split("\n")) {
            Matcher begun = METHOD.matcher(line);
            if (begun.matches()) name = begun.group(2);
            else if (!name.isEmpty()) bodies.merge(name, line, (body, more) -> body + "\n" + more);
        }
        DUE.is("methods were found", bodies.size() > FACE.length, true);
        for (String one : FACE) {
            String call = one.substring(0, one.length() - 1);
            DUE.is(call + " was found", bodies.containsKey(call), true);
            int deep = depth(call, bodies, new ArrayList<>());
            DUE.is(call + " goes at most eight deep: " + deep, deep <= 8, true);
        }
    }

    private static int depth(String name, Map<String, String> bodies, List<String> open) {
        if (!bodies.containsKey(name) || open.contains(name)) return 0;
        open.add(name);
        int deepest = 0;
        for (Matcher one = Pattern.compile("\\b(\\w+)\\(").matcher(bodies.get(name)); one.find();) {
            deepest = Math.max(deepest, depth(one.group(1), bodies, open));
        }
        open.remove(name);
        return 1 + deepest;
    }

    /** A method begins at four or eight blanks, and ends with a brace at as many. */
    private static void lengths() throws IOException {
        int begun = -1;
        int number = 0;
        String indent = "";
        for (String line : Files.readAllLines(SOURCE)) {
            number++;
            DUE.is("line " + number + " is not too long", line.length() <= 120, true);
            if (begun < 0 && line.matches("( {4}| {8})(?!private static final class)\\S.*\\) \\{")) {
                begun = number;
                indent = line.substring(0, line.length() - line.stripLeading().length());
            } else if (begun >= 0 && line.equals(indent + "}")) {
                DUE.is("method at " + begun + " is short", number - begun <= 60, true);
                begun = -1;
            }
        }
    }
}
