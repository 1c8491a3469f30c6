import java.io.IOException;
import java.lang.reflect.Constructor;
import java.lang.reflect.Field;
import java.lang.reflect.Method;
import java.lang.reflect.Modifier;
import java.nio.file.Files;
import java.nio.file.Path;
import java.util.TreeSet;
import java.util.regex.Matcher;
import java.util.regex.Pattern;

/** The class shows the document's face, and nothing else. */
final class FaceTest {
    private static final String FACE = "asked(int) back() book(int,int) borders(int) breaks(int) busiest() can(int,int) "
        + "controls(int,int) count(int) detour() end(int):boolean fits(int) frees(int,int) gates(int,int) hours(int) "
        + "inUse(int) keeps() late() left(int) movement(int,int) net() next(int) office(int,int) owed(int) owes(int) "
        + "pays(int) proves(int) risk(int) road(int,int) routes(int,int) row(int):long sign(int) stamps(int,int) "
        + "starts(int,int,int) states(int) stop(int,int) sums(int,int,int) tightest() trader(int,int) undo() way(int,int) "
        + "when(int,int) worth(int) written(int)";

    private FaceTest() {
    }

    public static void main(String[] args) throws IOException {
        Check check = new Check("FaceTest");
        lookAtClass(check);
        lookAtWords(check, Files.readString(Path.of("../shared/DOC.md")), Files.readString(Path.of("src/main/java/TransitSeals.java")));
        check.close();
    }

    private static void lookAtClass(Check check) {
        TreeSet<String> calls = new TreeSet<>();
        for (Method m : TransitSeals.class.getDeclaredMethods()) {
            if (!Modifier.isPrivate(m.getModifiers())) {
                calls.add(told(m));
            }
        }
        check.due("the calls", String.join(" ", calls), FACE);

        StringBuilder constants = new StringBuilder();
        for (Field f : TransitSeals.class.getDeclaredFields()) {
            if (!Modifier.isPrivate(f.getModifiers())) {
                constants.append(Modifier.toString(f.getModifiers())).append(' ').append(f.getType()).append(' ').append(f.getName());
            }
        }
        check.due("the constants", constants.toString(), "public static final int NONE");
        check.due("NONE", TransitSeals.NONE, -1);

        Constructor<?>[] constructors = TransitSeals.class.getDeclaredConstructors();
        check.due("constructors", constructors.length, 1);
        check.due("public constructors", TransitSeals.class.getConstructors().length, 1);
        check.due("the class", Modifier.toString(TransitSeals.class.getModifiers()), "public final");
    }

    /** The document's lines of the face, and what it says ahead of calls, stand in the program, in their order. */
    private static void lookAtWords(Check check, String document, String program) {
        Matcher face = Pattern.compile("(?s)```java\n(.*?)```").matcher(document);
        check.due("the document has a face", face.find(), true);
        check.due("the face", all(program, "(?m)^(?: {4})?(public .*?)(?: \\{|;)$"), all(face.group(1), "(?m)^ *(public .*?)(?: \\{|;)$"));

        Matcher ahead = Pattern.compile("(?m)^Ahead of the calls (.*) the interface says: (----.*)\\.$").matcher(document);
        int parts = 0;
        while (ahead.find()) {
            parts++;
            String[] part = program.split("// " + ahead.group(2) + "\n", -1);
            check.due("the program has " + ahead.group(2), part.length, 2);
            String calls = part[part.length - 1].split("// ----", -1)[0];
            check.due(ahead.group(2), all(calls, "(?m)^    public \\w+ (\\w+)\\("), all(ahead.group(1), "`(\\w+)`"));
        }
        check.due("parts of the interface", parts, 6);
    }

    private static String all(String text, String words) {
        StringBuilder all = new StringBuilder();
        Matcher m = Pattern.compile(words).matcher(text);
        while (m.find()) {
            all.append(m.group(1)).append('\n');
        }
        return all.toString();
    }

    private static String told(Method m) {
        StringBuilder told = new StringBuilder(m.getName()).append('(');
        for (Class<?> type : m.getParameterTypes()) {
            told.append(told.charAt(told.length() - 1) == '(' ? "" : ",").append(type);
        }
        told.append(')');
        return m.getReturnType() == int.class ? told.toString() : told.append(':').append(m.getReturnType()).toString();
    }
}
