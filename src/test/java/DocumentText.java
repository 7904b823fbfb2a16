import java.io.IOException;
import java.io.UncheckedIOException;
import java.nio.file.Files;
import java.nio.file.Path;
import java.util.LinkedHashMap;
import java.util.Map;
import java.util.regex.Matcher;
import java.util.regex.Pattern;

/**
 * The document in its sections, all but what is "Not promised": a test of an edge first quotes the sentence that it tests. A quote that
 * doesn't stand there, and in the end each sentence that no test quotes, is an answer that is not as due.
 */
final class DocumentText {
    static final String TITLE = "Title", WHAT_IT_IS = "What it is", FACE = "The public face", INTERFACE = "The interface";

    private static final String FILE = "../shared/DOC.md";
    private static final Map<String, String> TEXTS = new LinkedHashMap<>();
    private static final Map<String, boolean[]> QUOTED = new LinkedHashMap<>();
    private static String latest = "";

    static {
        String whole = read();
        keep(TITLE, between(whole, "", "## What it is "));
        keep(WHAT_IT_IS, between(whole, "## What it is ", "## The public face "));
        keep(FACE, between(whole, "## The public face ", "## Terms "));
        String[] paragraphs = between(whole, "## Terms ", "Ahead of the calls ").split("==== [1-5] ");
        for (int number = 0; number < paragraphs.length; number++) {
            keep(termsName(number), paragraphs[number]);
        }
        keep(INTERFACE, whole.substring(whole.indexOf("Ahead of the calls "), whole.indexOf("## Promise 1:")));
        Matcher m = Pattern.compile("## Promise (\\d+): (\\w+(?: \\w+)* `[^`]*`): (.*?)(?=## )").matcher(whole);
        while (m.find()) {
            int number = Integer.parseInt(m.group(1));
            keep(headName(number), m.group(2));
            keep(promiseName(number), m.group(3));
        }
    }

    private DocumentText() {
    }

    private static String read() {
        try {
            String marked = Files.readString(Path.of(FILE));
            return marked.replaceAll("```(text|java)?", "").replaceAll("\\s+", " ");
        } catch (IOException e) {
            throw new UncheckedIOException(e);
        }
    }

    private static void keep(String name, String text) {
        TEXTS.put(name, text);
        QUOTED.put(name, new boolean[text.length()]);
    }

    private static String between(String whole, String from, String to) {
        return whole.substring(whole.indexOf(from) + from.length(), whole.indexOf(to));
    }

    private static String termsName(int number) {
        return "Terms " + number;
    }

    private static String promiseName(int number) {
        return "Promise " + number;
    }

    private static String headName(int number) {
        return "Head of promise " + number;
    }

    /** What follows tests this of what stands ahead of the terms, or between them and the promises. */
    static void opening(String section, String quote) {
        says(section, quote);
    }

    /** What follows tests this of a promise's head: its name and how it is called. */
    static void head(int number, String quote) {
        says(headName(number), quote);
    }

    /** What follows tests this of the terms: 0 ahead of the numbered paragraphs, then their numbers. */
    static void terms(int paragraph, String quote) {
        says(termsName(paragraph), quote);
    }

    /** What follows tests this of a promise. */
    static void promise(int number, String quote) {
        says(promiseName(number), quote);
    }

    private static void says(String name, String quote) {
        latest = name + ", '" + quote + "'";
        int at = TEXTS.getOrDefault(name, "").indexOf(quote);
        Check.dueTrue(latest + " stands in the document", at >= 0);
        for (int c = 0; at >= 0 && c < quote.length(); c++) {
            QUOTED.get(name)[at + c] = true;
        }
    }

    /** An answer that the sentence quoted latest asks for. */
    static void due(String call, long got, long want) {
        Check.due(latest + ": " + call, got, want);
    }

    static void dueTrue(String what, boolean got) {
        Check.dueTrue(latest + ": " + what, got);
    }

    static void dueAllQuoted() {
        Check.due("sections of the document", TEXTS.size(), 4 + 6 + 30 + 30);
        for (String name : TEXTS.keySet()) {
            StringBuilder left = new StringBuilder();
            for (int c = 0; c < TEXTS.get(name).length(); c++) {
                left.append(QUOTED.get(name)[c] ? ' ' : TEXTS.get(name).charAt(c));
            }
            Check.dueTrue(name + " has a test of '" + left.toString().trim() + "'", left.toString().isBlank());
        }
    }
}
