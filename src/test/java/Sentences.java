import java.io.IOException;
import java.io.UncheckedIOException;
import java.nio.file.Files;
import java.nio.file.Path;
import java.util.HashMap;
import java.util.HashSet;
import java.util.Map;
import java.util.Set;

/** Tests that name a promise and the words of the document that they hold the class to. */
class Sentences extends Calls {
    private static final int PROMISES = 31;
    private static final Path DOCUMENT = Path.of("../shared/DOC.md");
    private static final Map<Integer, String> SECTIONS = new HashMap<>();
    private static final Map<Integer, Set<String>> QUOTED = new HashMap<>();
    private static int tests = 0;

    static void sentence(int promise, String words, Runnable calls) {
        tests++;
        context = "promise " + promise + ", \"" + words + "\": ";
        due("these are the document's words, which", stands(promise, words), true);
        QUOTED.computeIfAbsent(promise, none -> new HashSet<>()).add(words);
        calls.run();
        context = "";
    }

    /** Each sentence of each promise has a test. Terms stand in section 0, which any promise may use. */
    static void allAreQuoted() {
        for (int promise = 1; promise <= PROMISES && hasDocument(); promise++) {
            String body = section(promise).replaceFirst("^.*?`: ", "");
            for (String told : body.split("(?<=\\.) (?=[A-Z])")) {
                due("promise " + promise + " has a test for \"" + told + "\", which", isQuoted(promise, told), true);
            }
        }
        System.out.println(tests + " sentences");
    }

    /** No word of the Terms is left out: what stands between the quotes are signs and marks alone. */
    static void everyTermIsQuoted() {
        if (!hasDocument()) {
            return;
        }
        String terms = section(0).replaceFirst("^.*?## Terms ", "").replaceAll("```(text)?|==== [IV]+\\.", "|");
        StringBuilder left = new StringBuilder(terms);
        for (Set<String> quotes : QUOTED.values()) {
            for (String words : quotes) {
                int at = terms.indexOf(words);
                if (at >= 0) {
                    left.replace(at, at + words.length(), "|".repeat(words.length()));
                }
            }
        }
        for (String gap : left.toString().split("\\|+")) {
            due("\"" + gap.trim() + "\" of the Terms has a test, which", gap.matches("[^A-Za-z]*"), true);
        }
    }

    private static boolean isQuoted(int promise, String told) {
        for (String words : QUOTED.getOrDefault(promise, Set.of())) {
            if (told.contains(words) || words.contains(told)) {
                return true;
            }
        }
        return false;
    }

    private static boolean stands(int promise, String words) {
        return !hasDocument() || section(promise).contains(words) || section(0).contains(words);
    }

    private static boolean hasDocument() {
        return Files.exists(DOCUMENT);
    }

    private static String section(int promise) {
        if (SECTIONS.isEmpty()) {
            readDocument();
        }
        return SECTIONS.getOrDefault(promise, "");
    }

    private static void readDocument() {
        try {
            String text = Files.readString(DOCUMENT).replaceAll("\\s+", " ");
            String[] parts = text.split("## Promise (?=\\d)|## Not promised");
            for (int promise = 0; promise <= PROMISES && promise < parts.length; promise++) {
                SECTIONS.put(promise, parts[promise].trim());
            }
        } catch (IOException e) {
            throw new UncheckedIOException(e);
        }
    }
}
