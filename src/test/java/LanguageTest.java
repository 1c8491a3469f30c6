import java.io.IOException;
import java.nio.file.Files;
import java.nio.file.Path;
import java.util.List;
import java.util.regex.Matcher;
import java.util.regex.Pattern;

/** What of ../shared/LANGUAGE.md can be seen from the program's words alone; .ci/run starts it at the project's root. */
final class LanguageTest {
    private static final List<String> FORBIDDEN = List.of("->", "::", "\\bassert\\b", "\\bsynchronized\\b", "\\bfinally\\b",
        "\\bcatch\\b", "\\bpackage\\b", "\\bprotected\\b", "\\bSystem\\.(?!arraycopy)", "Exact\\b", "\\bMap\\b", "\\bObject\\b",
        "\\bvar\\b", "\\bstatic \\{", "\\[\\]\\[\\]\\[\\]");

    private LanguageTest() {
    }

    public static void main(String[] args) throws IOException {
        Check check = new Check("LanguageTest");
        String program = withoutComments(Files.readString(Path.of("src/main/java/TransitSeals.java")));
        for (String words : FORBIDDEN) {
            check.due("the program has " + words, Pattern.compile(words).matcher(program).find(), false);
        }
        check.due("signs beyond 127", program.chars().anyMatch(c -> c > 127), false);
        check.due("imports", told(program, "import [^;]*"), "import java.util.NoSuchElementException");
        check.due("what is thrown", told(program, "throw [^;]*"), "throw new NoSuchElementException()");
        check.due("some twelve classes", count(program, "\\bclass\\b") <= 12, true);
        check.due("static fields that are not final", count(program, "\\bstatic (?!final\\b)[^(;{]*[=;]"), 0);
        check.due("inner classes that are not static", count(program, "(?<!static final |public final )class\\b"), 0);
        check.due("methods are short", longestMethod(program) <= 60, true);
        check.close();
    }

    private static String withoutComments(String program) {
        return program.replaceAll("(?s)/\\*.*?\\*/", "").replaceAll("//[^\n]*", "");
    }

    private static int count(String program, String words) {
        return (int) Pattern.compile(words).matcher(program).results().count();
    }

    private static String told(String program, String words) {
        StringBuilder told = new StringBuilder();
        Matcher m = Pattern.compile(words).matcher(program);
        while (m.find()) {
            told.append(told.length() == 0 ? "" : ", ").append(m.group());
        }
        return told.toString();
    }

    /** Lines from a method's head to the brace that ends it, at the same depth. */
    private static int longestMethod(String program) {
        int longest = 0;
        Matcher m = Pattern.compile("(?ms)^( {4}| {8})(?=\\S)[\\w\\[\\] ]+\\([^;{]*\\)[\\w ]*\\{\n.*?^\\1\\}$").matcher(program);
        while (m.find()) {
            longest = Math.max(longest, (int) m.group().lines().count());
        }
        return longest == 0 ? Integer.MAX_VALUE : longest;
    }
}
