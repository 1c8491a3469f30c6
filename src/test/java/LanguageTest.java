import java.io.IOException;
import java.lang.reflect.Field;
import java.lang.reflect.Method;
import java.lang.reflect.Modifier;
import java.nio.file.Files;
import java.nio.file.Path;
import java.util.ArrayList;
import java.util.List;
import java.util.Set;
import java.util.TreeSet;
import java.util.regex.Matcher;
import java.util.regex.Pattern;

/** What of ../shared/LANGUAGE.md can be seen from the program's words and classes; .ci/run starts it at the project's root. */
final class LanguageTest {
    private static final List<String> FORBIDDEN = List.of("->", "::", "\\bassert\\b", "\\bsynchronized\\b", "\\bfinally\\b",
        "\\bcatch\\b", "\\bpackage\\b", "\\bprotected\\b", "\\bSystem\\.(?!arraycopy)", "Exact\\b", "\\bMap\\b", "\\bObject\\b",
        "\\bvar\\b", "\\bstatic \\{", "\\[\\]\\[\\]\\[\\]");

    private LanguageTest() {
    }

    public static void main(String[] args) throws IOException {
        Check check = new Check("LanguageTest");
        String program = withoutComments(Files.readString(Path.of("src/main/java/TransitSeals.java")));
        for (String words : FORBIDDEN) {
            check.due("the program has " + words, Pattern.compile(words).matcher(program).find(), false);
        }
        check.due("signs beyond 127", program.chars().anyMatch(c -> c > 127), false);
        check.due("imports", told(program, "import [^;]*"), "import java.util.NoSuchElementException");
        check.due("what is thrown", told(program, "throw [^;]*"), "throw new NoSuchElementException()");
        check.due("some twelve classes", count(program, "\\bclass\\b") <= 12, true);
        check.due("static fields that are not final", count(program, "\\bstatic (?!final\\b)[^(;{]*[=;]"), 0);
        check.due("inner classes that are not static", count(program, "(?<!static final |public final )class\\b"), 0);
        check.due("methods are short", longestMethod(program) <= 60, true);
        check.due("the library", new TreeSet<>(List.of(told(program, "\\b[A-Z][a-z]\\w*\\.(?=\\w+\\()\\w+").split(", "))).toString(),
            "[Integer.bitCount, Math.max, Math.min]");
        lookAtClasses(check);
        check.close();
    }

    private static void lookAtClasses(Check check) {
        List<Class<?>> classes = new ArrayList<>(List.of(TransitSeals.class.getDeclaredClasses()));
        for (Class<?> c : classes) {
            check.due(c + " is static", Modifier.isStatic(c.getModifiers()), true);
            check.due(c + " has classes inside", c.getDeclaredClasses().length, 0);
        }
        classes.add(TransitSeals.class);
        Set<Class<?>> types = new java.util.HashSet<>(List.of(void.class, int.class, long.class, char.class, boolean.class, int[].class));
        for (Class<?> c : classes) {
            types.add(c);
            types.add(c.arrayType());
        }
        for (Class<?> c : classes) {
            lookAtFields(check, c, types);
            lookAtMethods(check, c, types);
        }
    }

    private static void lookAtFields(Check check, Class<?> c, Set<Class<?>> types) {
        int fields = 0;
        for (Field f : c.getDeclaredFields()) {
            boolean constant = Modifier.isStatic(f.getModifiers());
            check.due(f + " is final, if it is static", Modifier.isFinal(f.getModifiers()) || !constant, true);
            check.due(f + " has one of the types", types.contains(f.getType()), true);
            fields += constant ? 0 : 1;
        }
        check.due(c + " has some twenty fields", fields <= 20, true);
    }

    private static void lookAtMethods(Check check, Class<?> c, Set<Class<?>> types) {
        Set<String> open = new TreeSet<>();
        for (Method m : TransitSeals.class.getDeclaredMethods()) {
            if (Modifier.isPublic(m.getModifiers())) {
                open.add(m.getName());
            }
        }
        for (Method m : c.getDeclaredMethods()) {
            check.due(m + " has seven parameters or fewer", m.getParameterCount() <= 7, true);
            check.due(m + " has types of these", types.contains(m.getReturnType()) && types.containsAll(List.of(m.getParameterTypes())), true);
            boolean hidden = Modifier.isPrivate(m.getModifiers());
            check.due(m + " bears no public name, if it is private", !hidden || !open.contains(m.getName()), true);
        }
    }

    private static String withoutComments(String program) {
        return program.replaceAll("(?s)/\\*.*?\\*/", "").replaceAll("//[^\n]*", "");
    }

    private static int count(String program, String words) {
        return (int) Pattern.compile(words).matcher(program).results().count();
    }

    private static String told(String program, String words) {
        StringBuilder told = new StringBuilder();
        Matcher m = Pattern.compile(words).matcher(program);
        while (m.find()) {
            told.append(told.length() == 0 ? "" : ", ").append(m.group());
        }
        return told.toString();
    }

    /** Lines from a method's head to the brace that ends it, at the same depth. */
    private static int longestMethod(String program) {
        int longest = 0;
        Matcher m = Pattern.compile("(?ms)^( {4}| {8})(?=\\S)[\\w\\[\\] ]+\\([^;{]*\\)[\\w ]*\\{\n.*?^\\1\\}$").matcher(program);
        while (m.find()) {
            longest = Math.max(longest, (int) m.group().lines().count());
        }
        return longest == 0 ? Integer.MAX_VALUE : longest;
    }
}
