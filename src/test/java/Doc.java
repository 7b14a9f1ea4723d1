import java.io.IOException;
import java.nio.file.Files;
import java.nio.file.Path;
import java.util.Arrays;
import java.util.LinkedHashMap;
import java.util.Map;

/**
 * The document's Terms and Promises, and which of their words a test stands behind: a test
 * quotes a sentence ahead of its answers, and at the end no sentence may be left unquoted.
 */
final class Doc {
    private static final Map<String, String> PARTS = new LinkedHashMap<>();
    private static final Map<String, boolean[]> QUOTED = new LinkedHashMap<>();

    private Doc() {
    }

    private static void read() {
        String text;
        try {
            text = Files.readString(Path.of("../shared/DOC.md"));
        } catch (IOException e) {
            throw new IllegalStateException(e);
        }
        put("It", text.substring(text.indexOf("\nAn object") + 1, text.indexOf("## The public face")));
        String terms = text.substring(text.indexOf("## Terms") + 8, text.indexOf("\nThe constants:"));
        String[] names = {"I", "II", "III", "IV"};
        for (int i = 0; i < names.length; i++) {
            int from = terms.indexOf("\n" + names[i] + ". ") + names[i].length() + 2;
            int to = i == 3 ? terms.length() : terms.indexOf("\n" + names[i + 1] + ". ");
            put(names[i], terms.substring(from, to));
        }
        for (String promise : text.substring(0, text.indexOf("## Not promised")).split("## Promise ")) {
            if (promise.matches("(?s)\\d+: .*")) {
                // behind the heading and the call's own line
                put(promise.substring(0, promise.indexOf(':')), promise.substring(promise.indexOf("`: ") + 3));
            }
        }
    }

    private static void put(String part, String text) {
        String plain = text.replaceAll("```(text)?", " ").replaceAll("\\s+", " ").trim();
        PARTS.put(part, plain);
        QUOTED.put(part, new boolean[plain.length()]);
    }

    /** The document's own words; what is tested next stands at the bounds that they name. */
    static void says(String part, String words) {
        if (PARTS.isEmpty()) {
            read();
        }
        String text = PARTS.getOrDefault(part, "");
        int at = text.indexOf(words);
        Due.due("the document says in " + part + ": " + words, at >= 0, true);
        if (at >= 0) {
            Arrays.fill(QUOTED.get(part), at, at + words.length(), true);
        }
    }

    static void says(int promise, String words) {
        says(Integer.toString(promise), words);
    }

    /** Every word of the Terms and the Promises was quoted. */
    static void allQuoted() {
        Due.due("terms and promises", PARTS.size(), 1 + 4 + 67);
        for (String part : PARTS.keySet()) {
            StringBuilder left = new StringBuilder();
            for (int i = 0; i < PARTS.get(part).length(); i++) {
                left.append(QUOTED.get(part)[i] ? ' ' : PARTS.get(part).charAt(i));
            }
            String unquoted = left.toString().replaceAll("[^a-zA-Z0-9]+", " ").trim();
            Due.due("unquoted in " + part + ": " + unquoted, unquoted.isEmpty(), true);
        }
    }
}
