import java.io.IOException;
import java.io.UncheckedIOException;
import java.nio.charset.StandardCharsets;
import java.nio.file.Files;
import java.nio.file.Path;
import java.util.ArrayList;
import java.util.Comparator;
import java.util.List;
import java.util.regex.Pattern;

/**
 * The document, sentence by sentence: a test is named by the sentence that it watches, and no sentence
 * may stand without a test. So a sentence that is added or changed in the document is missed at once.
 */
final class Doc {
    private static final Path DOCUMENT = Path.of("../shared/DOC.md");
    private static final int TERMS = 0;
    private static final int PROMISES = 34;

    /** What stands before the promises but tells of no call. */
    private static final String NOT_TO_TEST = "An analogue-to-digital converter that weighs .*? and undo\\."
        + "|\\bWeights, weighing\\b|Ahead of the calls [^:]*: ---- [a-z ]*[.;]";

    private static final List<String> PARTS = parts();
    private static final List<List<String>> TESTED = new ArrayList<>();

    static {
        for (int part = 0; part <= PROMISES; part++) {
            TESTED.add(new ArrayList<>());
        }
    }

    /** A test for a sentence that stands before the promises. */
    static void term(String sentence, Check.Body body) {
        test("terms", TERMS, sentence, body);
    }

    static void promise(int number, String sentence, Check.Body body) {
        test("promise " + number, number, sentence, body);
    }

    static boolean isUndoable(String call) {
        return Pattern.compile("(?m)^`\\w+ " + call + "\\(.*`: .* Undoable\\.$").matcher(document()).find();
    }

    private static void test(String place, int part, String sentence, Check.Body body) {
        TESTED.get(part).add(sentence);
        Check.test(place + ": " + sentence, () -> {
            Check.isTrue("the sentence stands there", PARTS.get(part).contains(sentence));
            body.run();
        });
    }

    /** Called last: looks for sentences that no test has named. */
    static void run() {
        for (int part = 0; part <= PROMISES; part++) {
            String rest = PARTS.get(part);
            List<String> longestFirst = new ArrayList<>(TESTED.get(part));
            longestFirst.sort(Comparator.comparing(String::length).reversed());
            for (String sentence : longestFirst) {
                rest = rest.replace(sentence, "");
            }
            String left = rest.strip();
            Check.test("every sentence has a test, part " + part, () ->
                Check.isTrue("no test for: " + left, left.isEmpty()));
        }
    }

    private static String document() {
        try {
            return Files.readString(DOCUMENT, StandardCharsets.UTF_8);
        } catch (IOException e) {
            throw new UncheckedIOException(e);
        }
    }

    /** The terms first, then the promises by their numbers; each one in a single line. */
    private static List<String> parts() {
        String text = document();
        text = text.substring(0, text.indexOf("## Not promised")).replaceAll("(?s)```.*?```", "");
        List<String> parts = new ArrayList<>();
        for (String part : text.split("## Promise \\d+: .*\\R")) {
            boolean isTerms = parts.isEmpty();
            String plain = part.replaceAll("(?m)^#.*$", "").replaceAll("(?m)^- ", "").replaceAll("\\s+", " ").strip();
            parts.add(isTerms ? plain.replaceAll(NOT_TO_TEST, "") : plain.replaceFirst("^`[^`]*`: ", ""));
        }
        if (parts.size() != PROMISES + 1) {
            throw new IllegalStateException("the document has " + (parts.size() - 1) + " promises");
        }
        return parts;
    }
}
