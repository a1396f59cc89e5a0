import java.io.IOException;
import java.lang.reflect.Constructor;
import java.lang.reflect.Field;
import java.lang.reflect.Method;
import java.lang.reflect.Modifier;
import java.nio.file.Files;
import java.nio.file.Path;
import java.util.List;
import java.util.Set;
import java.util.TreeSet;
import java.util.regex.Pattern;

/** The face of the class, and the rules of LANGUAGE.md that can be seen without a compiler. */
public final class LanguageTest {
    private static final Due DUE = new Due();
    private static final Path SOURCE = Path.of("src/main/java/InkTaken.java");
    private static final String[] FACE = {
        "row3", "set3", "copy5", "drop1", "feed1", "archive0", "fault0", "undo0", "write3", "recall1", "days1",
        "copyOf2", "hand2", "deed2", "place2", "falls2", "ransom1", "pair1", "ahead2", "first2", "safe1", "doubles3",
        "law2", "order1", "blanks2", "forged2", "itself3", "years3", "image1", "restore1", "kind1", "as2", "ask2",
        "trace1", "count1", "status0"
    };
    private static final String[] FORBIDDEN = {
        "throw", "throws", "try", "catch", "finally", "synchronized", "assert", "var", "Object", "System\\.(?!arraycopy)",
        "->", "::", "\\w+Exact", "protected", "native", "volatile", "transient", "hashCode", "toString"
    };

    public static void main(String[] args) throws IOException {
        face();
        nested();
        words();
        lengths();
        DUE.end();
    }

    private static void face() {
        Set<String> due = new TreeSet<>(List.of(FACE));
        Set<String> got = new TreeSet<>();
        for (Method one : InkTaken.class.getDeclaredMethods()) {
            if (Modifier.isPrivate(one.getModifiers())) {
                DUE.is(one.getName() + " is of the face", hasName(due, one.getName()) ? 1 : 0, 0);
                continue;
            }
            DUE.is(one.getName() + " is public", one.getModifiers(), Modifier.PUBLIC);
            DUE.is(one.getName() + " answers", one.getReturnType(), int.class);
            got.add(one.getName() + one.getParameterCount());
        }
        DUE.is("methods", got, due);
        for (Constructor<?> one : InkTaken.class.getDeclaredConstructors()) {
            DUE.is("constructor", one.getModifiers() + one.getParameterCount(), Modifier.PUBLIC);
        }
        DUE.is("class", InkTaken.class.getModifiers(), Modifier.PUBLIC | Modifier.FINAL);
        int constants = 0;
        for (Field one : InkTaken.class.getDeclaredFields()) {
            boolean open = !Modifier.isPrivate(one.getModifiers());
            if (open) constants++;
            if (open) DUE.is(one.getName(), List.of("NONE", "BAD", "STATE", "FULL").contains(one.getName()), true);
        }
        DUE.is("constants", constants, 4);
    }

    private static boolean hasName(Set<String> face, String name) {
        for (String one : face) {
            if (one.substring(0, one.length() - 1).equals(name)) return true;
        }
        return false;
    }

    private static void nested() {
        Set<String> face = new TreeSet<>(List.of(FACE));
        Class<?>[] inside = InkTaken.class.getDeclaredClasses();
        DUE.is("some twelve classes", inside.length < 12, true);
        for (Class<?> one : inside) {
            DUE.is(one.getName() + " is static", Modifier.isStatic(one.getModifiers()), true);
            int fields = 0;
            for (Field field : one.getDeclaredFields()) {
                boolean still = Modifier.isStatic(field.getModifiers());
                if (still) DUE.is(field.getName() + " is final", Modifier.isFinal(field.getModifiers()), true);
                if (!still) fields++;
            }
            DUE.is(one.getName() + " has some twenty fields", fields <= 20, true);
            for (Method method : one.getDeclaredMethods()) {
                DUE.is(method.getName() + " is of the face", hasName(face, method.getName()), false);
                DUE.is(method.getName() + " takes seven at most", method.getParameterCount() <= 7, true);
            }
        }
    }

    private static void words() throws IOException {
        String source = Files.readString(SOURCE).replaceAll("(?s)/\\*.*?\\*/", "").replaceAll("//[^\n]*", "");
        for (String word : FORBIDDEN) {
            boolean letters = Character.isLetter(word.charAt(0));
            Pattern pattern = Pattern.compile(letters ? "\\b" + word + "\\b" : word);
            DUE.is("there is " + word, pattern.matcher(source).find(), false);
        }
        for (char one : source.toCharArray()) {
            if (one > 126) DUE.is("sign " + (int) one, false, true);
        }
    }

    /** A method begins at four or eight blanks, and ends with a brace at as many. */
    private static void lengths() throws IOException {
        int begun = -1;
        int number = 0;
        String indent = "";
        for (String line : Files.readAllLines(SOURCE)) {
            number++;
            DUE.is("line " + number + " is not too long", line.length() <= 120, true);
            if (begun < 0 && line.matches("( {4}| {8})(?!private static final class)\\S.*\\) \\{")) {
                begun = number;
                indent = line.substring(0, line.length() - line.stripLeading().length());
            } else if (begun >= 0 && line.equals(indent + "}")) {
                DUE.is("method at " + begun + " is short", number - begun <= 60, true);
                begun = -1;
            }
        }
    }
}
