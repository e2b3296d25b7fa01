import java.io.IOException;
import java.io.UncheckedIOException;
import java.nio.file.Files;
import java.nio.file.Path;
import java.util.Arrays;

/**
 * The document's sentences, and which of them the tests of this run have named.
 * It is read from the project's folder; where it does not stand there, the
 * tests run all the same, and only their names for its sentences go unlooked at.
 */
final class Document {
    private static final Path FILE = Path.of("../shared/DOC.md");
    private static final boolean IS_HERE = Files.exists(FILE);
    private static final String TEXT = IS_HERE ? read() : "";
    private static final boolean[] IS_NAMED = new boolean[TEXT.length()];

    private Document() {
    }

    private static String read() {
        try {
            return Files.readString(FILE);
        } catch (IOException e) {
            throw new UncheckedIOException(e);
        }
    }

    /** The test that calls this one looks at the words, which the document says of the promise. */
    static void promise(int number, String words) {
        name(headingOf(number), words);
    }

    /** The test that calls this one looks at the words, which stand in "Terms". */
    static void terms(String words) {
        name("## Terms\n", words);
    }

    private static String headingOf(int promise) {
        return "## Promise " + promise + ": ";
    }

    private static void name(String heading, String words) {
        if (!IS_HERE) {
            return;
        }
        int at = TEXT.indexOf(words, beginOf(heading));
        boolean stands = at >= 0 && at + words.length() <= endOf(heading);
        Check.that(heading.trim() + " does not say: " + words, stands);
        if (stands) {
            Arrays.fill(IS_NAMED, at, at + words.length(), true);
        }
    }

    /** Each of these promises has its tests: for its lines, and for what is thrown first and changes nothing. */
    static void requirePromises(int first, int last) {
        for (int number = first; IS_HERE && number <= last; number++) {
            String heading = headingOf(number);
            requireLines(heading);
            int exceptions = TEXT.substring(beginOf(heading), endOf(heading)).split("\nThrows ").length - 1;
            if (exceptions > 0) {
                Tests.require("promise" + number + "AfterARefusal");
            }
            if (exceptions > 1) {
                Tests.require("promise" + number + "FirstNamedIsThrown");
            }
        }
    }

    /** Parameters, answers and exceptions; where a promise has none of these, what its first line says. */
    private static void requireLines(String heading) {
        String[] lines = TEXT.substring(beginOf(heading), endOf(heading)).trim().split("\n+");
        int at = beginOf(heading);
        for (String line : lines) {
            at = TEXT.indexOf(line, at);
            if (lines.length == 1 || line.matches("(- `|Returns |Throws ).*")) {
                requireNamed(heading, at, at + line.length());
            }
        }
    }

    /** Each part of each sentence of "Terms", up to where the constants begin. */
    static void requireTerms() {
        if (!IS_HERE) {
            return;
        }
        int end = TEXT.indexOf("The constants:");
        int from = beginOf("## Terms\n");
        for (int at = from; at < end; at++) {
            if (".;:".indexOf(TEXT.charAt(at)) >= 0 || at == end - 1) {
                if (!TEXT.substring(from, at + 1).isBlank()) {
                    requireNamed("## Terms\n", from, at + 1);
                }
                from = at + 1;
            }
        }
    }

    private static void requireNamed(String heading, int from, int to) {
        boolean isNamed = false;
        for (int at = from; at < to; at++) {
            isNamed |= IS_NAMED[at] && Character.isLetterOrDigit(TEXT.charAt(at));
        }
        String words = TEXT.substring(from, to).trim();
        Check.that(heading.trim() + " says what no test looks at: " + words, isNamed);
    }

    private static int beginOf(String heading) {
        int at = TEXT.indexOf(heading);
        if (at < 0) {
            throw new IllegalStateException("the document has no " + heading);
        }
        return TEXT.indexOf('\n', at);
    }

    private static int endOf(String heading) {
        int end = TEXT.indexOf("\n## ", beginOf(heading));
        return end < 0 ? TEXT.length() : end;
    }
}
