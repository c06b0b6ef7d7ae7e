import java.io.IOException;
import java.nio.file.Files;
import java.nio.file.Path;
import java.util.ArrayList;
import java.util.Arrays;
import java.util.List;
import java.util.Map;
import java.util.TreeMap;
import java.util.regex.Matcher;
import java.util.regex.Pattern;

/** The document's words: its terms (told as promise 0) and its promises, and which of them tests have quoted. */
final class Document {
    private static final Path FILE = Path.of("../shared/DOC.md");
    private static final int TERMS = 0;

    private final Map<Integer, String> texts = new TreeMap<>();
    private final Map<Integer, boolean[]> quoted = new TreeMap<>();

    Document() throws IOException {
        String all = Files.readString(FILE);
        String use = between(all, "\n(An object is used [^\n]*)\n");
        String terms = between(all, "(?s)\n## Terms\n(.*?)\n## Promise 1:");
        put(TERMS, use + " " + terms.replaceAll("(?m)^Ahead of the calls .*$", "").replaceAll("(?m)^[0-9]+\\. ", ""));
        Matcher promise = Pattern.compile("(?s)\n## Promise ([0-9]+):[^\n]*\n(.*?)(?=\n## )").matcher(all);
        while (promise.find()) {
            put(Integer.parseInt(promise.group(1)), promise.group(2).replaceFirst("(?s)^.*?`: ", ""));
        }
    }

    private static String between(String all, String pattern) {
        Matcher found = Pattern.compile(pattern).matcher(all);
        if (!found.find()) {
            throw new IllegalStateException("the document has no " + pattern);
        }
        return found.group(1);
    }

    private static String plain(String text) {
        return text.replaceAll("```[a-z]*", " ").replaceAll("\\s+", " ").trim();
    }

    private void put(int promise, String text) {
        texts.put(promise, plain(text));
        quoted.put(promise, new boolean[texts.get(promise).length()]);
    }

    int promises() {
        return texts.size() - 1;
    }

    /** Whether the promise, or the terms, say so. */
    boolean quote(int promise, String words) {
        return texts.containsKey(promise) && (mark(promise, plain(words)) || mark(TERMS, plain(words)));
    }

    private boolean mark(int section, String words) {
        int first = texts.get(section).indexOf(words);
        for (int at = first; at >= 0; at = texts.get(section).indexOf(words, at + 1)) {
            Arrays.fill(quoted.get(section), at, at + words.length(), true);
        }
        return first >= 0;
    }

    /** What no test has quoted, signs alone left out. */
    List<String> unquoted() {
        List<String> rest = new ArrayList<>();
        for (Map.Entry<Integer, String> section : texts.entrySet()) {
            StringBuilder left = new StringBuilder();
            for (int i = 0; i < section.getValue().length(); i++) {
                left.append(quoted.get(section.getKey())[i] ? '\n' : section.getValue().charAt(i));
            }
            for (String piece : left.toString().split("\n+")) {
                if (piece.matches(".*[A-Za-z0-9].*")) {
                    rest.add((section.getKey() == TERMS ? "terms" : "promise " + section.getKey()) + ": " + piece);
                }
            }
        }
        return rest;
    }
}
