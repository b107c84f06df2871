import java.io.IOException;
import java.nio.file.Files;
import java.nio.file.Path;
import java.util.ArrayList;
import java.util.Arrays;
import java.util.List;
import java.util.regex.Matcher;
import java.util.regex.Pattern;

/** The sentences that the tests of bounds carry, held against the document itself. */
final class Sentences {
    private static final Path DOCUMENT = Path.of("../shared/DOC.md");
    private static final int PROMISES = 20;
    /** Words by which a sentence names a bound or a refusal. */
    private static final Pattern NAMES_A_BOUND = Pattern.compile(
        "[0-9]+|NONE|\\bfalse\\b|can't|\\bnone\\b|at most|up to|wraps?|\\btoo\\b|till|until|empty|\\b(first|least|greatest)\\b");

    private static final List<Integer> promises = new ArrayList<>();
    private static final List<String> quotes = new ArrayList<>();

    private Sentences() {
    }

    static void quote(int promise, String sentence) {
        promises.add(promise);
        quotes.add(oneLine(sentence));
    }

    /** Each sentence stands where it is said to, and each that names a bound is carried by a test. */
    static void check() throws IOException {
        if (!Files.isReadable(DOCUMENT)) {
            System.out.println("the sentences were not held against the document: " + DOCUMENT + " is not here");
            return;
        }
        String document = Files.readString(DOCUMENT);
        String common = part(document, "# GreatStore", "## Promise 1:");
        boolean[] carried = carry(common, 0);
        looked("the terms", common, carried, Math.max(0, common.indexOf("## Terms")));
        for (int n = 1; n <= PROMISES; n++) {
            String own = ownPart(document, n);
            Check.due("promise " + n + " is carried by a test", promises.contains(n), true);
            // the heading and the signature are no sentences
            looked("promise " + n, own, carry(own, n), own.indexOf(")`:") + 3);
        }
        for (int i = 0; i < quotes.size(); i++) {
            int n = promises.get(i);
            boolean found = ownPart(document, n).contains(quotes.get(i)) || common.contains(quotes.get(i));
            Check.due("promise " + n + " has the sentence \"" + quotes.get(i) + "\"", found, true);
        }
    }

    private static String oneLine(String text) {
        return text.replaceAll("```(text|java)?", " ").replaceAll("==== [0-9]\\.", " ").replaceAll("\\s+", " ").trim();
    }

    private static String ownPart(String document, int promise) {
        String to = promise == PROMISES ? "## Not promised" : "## Promise " + (promise + 1) + ":";
        return part(document, "## Promise " + promise + ":", to);
    }

    private static String part(String document, String from, String to) {
        int at = document.indexOf(from);
        int end = document.indexOf(to);
        Check.due("the document has " + from + " ahead of " + to, at >= 0 && end > at, true);
        return at >= 0 && end > at ? oneLine(document.substring(at, end)) : "";
    }

    /** Which characters of a part the sentences of a promise cover; 0: those of all promises. */
    private static boolean[] carry(String part, int promise) {
        boolean[] carried = new boolean[part.length()];
        for (int i = 0; i < quotes.size(); i++) {
            int at = part.indexOf(quotes.get(i));
            if (at >= 0 && (promise == 0 || promise == promises.get(i))) {
                Arrays.fill(carried, at, at + quotes.get(i).length(), true);
            }
        }
        return carried;
    }

    private static void looked(String where, String part, boolean[] carried, int from) {
        Matcher words = NAMES_A_BOUND.matcher(part);
        for (int at = from; at < part.length() && words.find(at); at = words.end()) {
            String near = part.substring(Math.max(0, words.start() - 30), Math.min(part.length(), words.end() + 30));
            Check.due(where + ": a test carries \"" + near + "\"", carried[words.start()], true);
        }
    }
}
