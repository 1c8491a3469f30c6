import java.io.IOException;
import java.nio.file.Files;
import java.nio.file.Path;
import java.util.LinkedHashMap;
import java.util.Map;
import java.util.regex.Matcher;
import java.util.regex.Pattern;

/**
 * Tests named by sentences of the document. A name that is not there word for word is a fault, and so is a word of these
 * places of the document that is in no name: so no sentence goes without a test.
 */
final class Edges {
    interface Test {
        void look(Check check);
    }

    private static final Path DOCUMENT = Path.of("../shared/DOC.md");

    private final Check check;
    private final Map<String, String> document = new LinkedHashMap<>();
    private final Map<String, boolean[]> named = new LinkedHashMap<>();

    /** Places are told as "Terms 1", "Promise 14". */
    Edges(String name, String... places) throws IOException {
        check = new Check(name);
        readDocument(Files.readString(DOCUMENT));
        for (String place : places) {
            check.due("the document has " + place, document.containsKey(place), true);
            named.put(place, new boolean[document.getOrDefault(place, "").length()]);
        }
    }

    private void readDocument(String text) {
        Matcher promises = Pattern.compile("(?s)## (Promise \\d+): [^\n]*\n(.*?)(?=\n## |\\z)").matcher(text);
        while (promises.find()) {
            // The head of a call is no sentence.
            document.put(promises.group(1), plain(promises.group(2).replaceFirst("^\\s*`[^`]*`:", "")));
        }
        Matcher terms = Pattern.compile("(?s)\n1\\. (OFFICES .*?)\n2\\. (DEEDS.*?)\nAhead of").matcher(text);
        if (terms.find()) {
            document.put("Terms 1", plain(terms.group(1)));
            document.put("Terms 2", plain(terms.group(2)));
        }
    }

    private static String plain(String text) {
        return text.replaceAll("```(text)?", " ").replaceAll("\\s+", " ").trim();
    }

    /** A test of what these words say. */
    void of(String place, String words, Test test) {
        check.named(place + ": " + words);
        int at = document.getOrDefault(place, "").indexOf(words);
        boolean[] signs = named.get(place);
        check.due("the document says so there", at >= 0 && signs != null, true);
        for (int i = at; at >= 0 && signs != null && i < at + words.length(); i++) {
            signs[i] = true;
        }
        int looked = check.looked();
        test.look(check);
        check.due("something was looked at", check.looked() > looked, true);
        check.named("");
    }

    void close() {
        for (Map.Entry<String, boolean[]> place : named.entrySet()) {
            String text = document.getOrDefault(place.getKey(), "");
            StringBuilder rest = new StringBuilder();
            for (int i = 0; i < text.length(); i++) {
                rest.append(place.getValue()[i] || text.charAt(i) == ' ' ? "" : text.charAt(i));
            }
            check.due(place.getKey() + ": what no test is named by", rest.toString(), "");
        }
        check.close();
    }
}
