import java.nio.charset.StandardCharsets;
import java.nio.file.Files;
import java.nio.file.Path;
import java.util.HashSet;
import java.util.Set;
import java.util.regex.Matcher;
import java.util.regex.Pattern;

/**
 * The words of DOC.md that the tests of its edges quote. A quote must stand there to the letter, and
 * at the end nothing of what was to be quoted may be left over: so no sentence goes without a test.
 */
final class Doc {
    private static final String TEXT = read();
    private static final boolean[] QUOTED = new boolean[TEXT.length()];
    private static final Set<String> PROMISED = new HashSet<>();

    private Doc() {
    }

    private static String read() {
        try {
            String text = Files.readString(Path.of("../shared/DOC.md"), StandardCharsets.UTF_8);
            return text.replaceAll("```\\w*", " ").replaceAll("\\s+", " ");
        } catch (java.io.IOException e) {
            throw new IllegalStateException("the document can't be read", e);
        }
    }

    /** The sentences of a promise, behind the head of its method. */
    private static String[] sentences(int promise) {
        String head = "## Promise " + promise + ": [^`]*`[^`]*`: (.*?) ## ";
        Matcher m = Pattern.compile(head).matcher(TEXT);
        return m.find() ? m.group(1).trim().split("(?<=\\.) (?=[A-Z-])") : new String[0];
    }

    /** What follows tests this sentence of that promise. */
    static void promise(int number, String sentence) {
        boolean found = false;
        for (String one : sentences(number)) {
            found |= one.equals(sentence);
        }
        Check.about("promise " + number + ", '" + sentence + "': ");
        Check.due("it stands in the document", found, true);
        PROMISED.add(number + " " + sentence);
    }

    /** What follows tests these words of the parts I to V. */
    static void part(String words) {
        int at = TEXT.indexOf(words);
        Check.about("'" + words + "': ");
        Check.due("it stands in the document", at >= 0, true);
        for (int i = Math.max(at, 0); i < at + words.length(); i++) {
            QUOTED[i] = true;
        }
    }

    static void allPromisesQuoted() {
        Check.about("");
        for (int promise = 1; promise <= 46; promise++) {
            String[] all = sentences(promise);
            Check.due("promise " + promise + " has sentences", all.length > 0, true);
            for (String one : all) {
                boolean quoted = PROMISED.contains(promise + " " + one);
                Check.due("promise " + promise + ", '" + one + "' has a test", quoted, true);
            }
        }
    }

    /** Whether all is quoted from these words on till those (without them). */
    static void allQuoted(String from, String till) {
        Check.about("");
        int first = TEXT.indexOf(from);
        int last = TEXT.indexOf(till);
        Check.due(from + " stands ahead of " + till, first >= 0 && first < last, true);
        StringBuilder left = new StringBuilder();
        for (int i = Math.max(first, 0); i < last; i++) {
            boolean head = TEXT.startsWith("==== ", i);
            if (head) {
                // "==== III." is the head of a part
                i = TEXT.indexOf('.', i);
            } else if (!QUOTED[i] && TEXT.charAt(i) != ' ') {
                left.append(TEXT.charAt(i));
            }
        }
        Check.due("without a test: '" + left + "'", left.length(), 0);
    }
}
