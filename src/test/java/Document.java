import java.io.IOException;
import java.nio.file.Files;
import java.nio.file.Path;
import java.util.LinkedHashMap;
import java.util.Map;
import java.util.TreeMap;
import java.util.regex.Matcher;
import java.util.regex.Pattern;

/** The document's own words: which of them are held by a test, and which are not yet. */
final class Document {
    private static final Path FILE = Path.of("../shared/DOC.md");
    private static final String USE = "An object is used for at most 512 calls after it has been made; "
        + "what later calls answer is free.";

    /** By the sections' names: "what it is", "terms", "promise 1" and so on. */
    private final Map<String, String> texts = new LinkedHashMap<>();
    private final Map<String, boolean[]> held = new TreeMap<>();

    /** Where the document isn't at hand, the tests' sentences are taken as they stand. */
    private final boolean isThere = Files.isReadable(FILE);

    Document() throws IOException {
        if (isThere) {
            readSections(Files.readString(FILE));
        } else {
            System.out.println(FILE + " is not there: whether each sentence has a test is not looked at");
        }
    }

    private void readSections(String whole) {
        texts.put("what it is", USE);
        texts.put("terms", plain(between(whole, "## Terms", "## Promise 1:")
            // Where the calls stand in the interface is nothing that a call answers.
            .replaceAll("Ahead of the calls [^\n]*", "").replaceAll("```(text)?|(?m)^\\d\\. ", "")));
        Matcher heads = Pattern.compile("## Promise (\\d+):[^\n]*\n").matcher(whole);
        while (heads.find()) {
            String body = between(whole, heads.group(), "\n## ");
            texts.put("promise " + heads.group(1), plain(body.replaceFirst("`[^`]*`:", "")));
        }
        for (String section : texts.keySet()) {
            held.put(section, new boolean[texts.get(section).length()]);
        }
        if (!plain(whole).contains(USE)) {
            throw new IllegalStateException("the document says something else of its use");
        }
    }

    private static String between(String whole, String from, String to) {
        int start = whole.indexOf(from) + from.length();
        int end = whole.indexOf(to, start);
        return whole.substring(start, end < 0 ? whole.length() : end);
    }

    private static String plain(String text) {
        return text.replace("`", "").replaceAll("\\s+", " ").trim();
    }

    boolean has(String section, String sentence) {
        return !isThere || (texts.containsKey(section) && texts.get(section).contains(sentence));
    }

    /** From here on the sentence counts as one that a test holds. */
    void hold(String section, String sentence) {
        String text = texts.getOrDefault(section, "");
        for (int at = text.indexOf(sentence); at >= 0; at = text.indexOf(sentence, at + 1)) {
            for (int i = at; i < at + sentence.length(); i++) {
                held.get(section)[i] = true;
            }
        }
    }

    Iterable<String> sections() {
        return texts.keySet();
    }

    /** The words of a section that no sentence of a test has, with .. for the others. */
    String leftOf(String section) {
        StringBuilder left = new StringBuilder();
        String text = texts.get(section);
        for (int i = 0; i < text.length(); i++) {
            left.append(held.get(section)[i] ? '\u0001' : text.charAt(i));
        }
        String words = left.toString().replaceAll("\u0001+", " .. ");
        return Pattern.compile("[A-Za-z0-9]").matcher(words).find() ? words : "";
    }
}
