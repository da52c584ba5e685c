import java.io.IOException;
import java.nio.file.Files;
import java.nio.file.Path;
import java.util.LinkedHashMap;
import java.util.Map;

/**
 * The document's own sentences. A boundary test names the words that it is for, so that words which no test names,
 * words which the document does not say, and words with no answer behind them are found.
 */
final class Doc {
    private static final Map<String, String> TEXTS = new LinkedHashMap<>();
    private static final Map<String, boolean[]> NAMED = new LinkedHashMap<>();
    private static String last = "";
    private static int askedAhead = 0;

    private Doc() {
    }

    static void open() throws IOException {
        String title = "";
        StringBuilder text = new StringBuilder();
        for (String line : Files.readString(Path.of("../shared/DOC.md")).split("\n")) {
            if (line.startsWith("## ")) {
                keep(title, text.toString());
                title = line.substring(3).replaceAll(":.*", "");
                text.setLength(0);
            } else {
                text.append(line.startsWith("```") ? "" : line).append('\n');
            }
        }
        keep(title, text.toString());
    }

    private static void keep(String title, String text) {
        if (title.equals("Terms") || title.startsWith("Promise ")) {
            String plain = text.replaceAll("Ahead of the calls [^:]*: ---- (\\d cells, pins, threads\\.|what is done\\.|\\d foretold\\.)?", "");
            plain = plain.replaceAll("\\s+", " ").trim().replaceFirst("^`[^`]*`: ", "");
            TEXTS.put(title, plain);
            NAMED.put(title, new boolean[plain.length()]);
        }
    }

    /** The answers from here on are what these words of this section ask. */
    static void asks(String section, String words) {
        hasAnswers();
        last = section + ": " + words;
        Due.by(last);
        int from = TEXTS.getOrDefault(section, "").indexOf(words);
        if (from < 0) {
            Due.isWrong("the document does not say so");
        }
        for (int at = from; at >= 0; at = TEXTS.get(section).indexOf(words, at + 1)) {
            java.util.Arrays.fill(NAMED.get(section), at, at + words.length(), true);
        }
    }

    private static void hasAnswers() {
        if (!last.isEmpty() && Due.asked() == askedAhead) {
            Due.isWrong("no answer is looked at");
        }
        askedAhead = Due.asked();
    }

    /** All words of the terms and of the promises are named by tests. */
    static void isWhole() {
        hasAnswers();
        Due.by("the whole document");
        Due.is("terms and promises", TEXTS.size(), 39);
        TEXTS.forEach(Doc::isNamed);
    }

    private static void isNamed(String section, String text) {
        StringBuilder missed = new StringBuilder();
        for (int k = 0; k < text.length(); k++) {
            missed.append(NAMED.get(section)[k] ? ' ' : text.charAt(k));
        }
        Due.same(section + ", words that no test names", missed.toString().replaceAll("[^A-Za-z0-9]+", " ").trim(), "");
    }
}
