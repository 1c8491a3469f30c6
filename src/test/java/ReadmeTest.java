import java.io.IOException;
import java.net.URL;
import java.net.URLClassLoader;
import java.nio.file.Files;
import java.nio.file.Path;
import java.util.ArrayList;
import java.util.List;
import java.util.function.Supplier;
import java.util.regex.Matcher;
import java.util.regex.Pattern;
import javax.tools.ToolProvider;

/** README.md's example is compiled as it stands there, and each call answers what stands behind it. */
final class ReadmeTest {
    private static final Pattern BLOCK = Pattern.compile("(?s)```java\n(.*?)```");
    private static final Pattern CALL = Pattern.compile("(x\\.\\w+\\(.*\\)); +// (-?\\w+).*");
    private static final String HEAD = """
        public final class ReadmeExample implements java.util.function.Supplier<java.util.List<String>> {
            private final java.util.List<String> answers = new java.util.ArrayList<>();

            private void answers(java.util.function.Supplier<Object> call) {
                try {
                    answers.add(String.valueOf(call.get()));
                } catch (java.util.NoSuchElementException e) {
                    answers.add("NoSuchElementException");
                }
            }
        """;

    private final Check check;
    private final StringBuilder methods = new StringBuilder();
    private final StringBuilder steps = new StringBuilder();
    private final List<String> calls = new ArrayList<>();
    private final List<String> wanted = new ArrayList<>();

    private ReadmeTest(Check check) {
        this.check = check;
    }

    public static void main(String[] args) throws Exception {
        Check check = new Check("ReadmeTest");
        ReadmeTest test = new ReadmeTest(check);
        test.read(Files.readString(Path.of("README.md")));
        test.go();
        check.close();
    }

    private void read(String readme) {
        Matcher block = BLOCK.matcher(readme);
        while (block.find()) {
            if (block.group(1).startsWith("static ")) {
                methods.append(block.group(1));
            } else {
                block.group(1).lines().forEach(this::readStep);
            }
        }
    }

    private void readStep(String line) {
        Matcher call = CALL.matcher(line);
        if (call.matches()) {
            calls.add(call.group(1));
            wanted.add(call.group(2));
            steps.append("answers(() -> ").append(call.group(1)).append(");\n");
        } else {
            check.due(line + " is a call with an answer", line.startsWith("x."), false);
            steps.append(line).append('\n');
        }
    }

    private void go() throws IOException, ReflectiveOperationException {
        Path folder = Files.createTempDirectory("readme");
        Path source = folder.resolve("ReadmeExample.java");
        Files.writeString(source, HEAD + methods + "public java.util.List<String> get() {\n" + steps + "return answers;\n}\n}\n");
        int failed = ToolProvider.getSystemJavaCompiler().run(null, null, null, "-d", folder.toString(), "-classpath",
            System.getProperty("java.class.path"), source.toString());
        check.due("javac of the example", failed, 0);
        if (failed == 0) {
            look(folder);
        }
        for (String name : List.of("ReadmeExample.class", "ReadmeExample.java")) {
            Files.deleteIfExists(folder.resolve(name));
        }
        Files.deleteIfExists(folder);
    }

    private void look(Path folder) throws IOException, ReflectiveOperationException {
        try (URLClassLoader loader = new URLClassLoader(new URL[] {folder.toUri().toURL()})) {
            Object example = loader.loadClass("ReadmeExample").getConstructor().newInstance();
            List<?> answers = (List<?>) ((Supplier<?>) example).get();
            check.due("answers", answers.size(), calls.size());
            check.due("the example has calls", calls.size() > 0, true);
            for (int i = 0; i < answers.size(); i++) {
                check.due("line " + i + " of the example, " + calls.get(i), String.valueOf(answers.get(i)), wanted.get(i));
            }
        }
    }
}
