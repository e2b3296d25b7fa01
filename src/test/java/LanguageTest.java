import java.io.IOException;
import java.nio.file.Files;
import java.nio.file.Path;
import java.util.List;

/** The rules of ../shared/LANGUAGE.md that can be seen in the program's text; it is run from the project's folder. */
public final class LanguageTest {
    private static final Path PROGRAM = Path.of("src/main/java/QuayMesh.java");
    private static final String[] BANNED = {
        "->", "::", "try ", "catch", "finally", "synchronized", "assert", "instanceof", "static {",
        "Exact(", "System.", "Thread", "Random", "toString", "hashCode", "equals(", "package ", "\" +", "+ \"",
    };
    private static final List<String> THROWN = List.of(
        "throw new IndexOutOfBoundsException(\"", "throw new IllegalArgumentException(\"", "throw new IllegalStateException(\"");
    private static final int LONGEST_METHOD = 60;

    private LanguageTest() {
    }

    public static void main(String[] args) throws IOException {
        List<String> lines = Files.readAllLines(PROGRAM);
        String methodHead = "";
        int begun = 0;
        for (int i = 0; i < lines.size(); i++) {
            String line = lines.get(i);
            lookAt(line, i + 1);
            if (line.matches(" {4}\\S.*\\(.*\\{")) {
                methodHead = line.trim();
                begun = i;
            }
            if (line.equals("    }")) {
                Check.that(methodHead + " is too long", methodHead.isEmpty() || i - begun <= LONGEST_METHOD);
                methodHead = "";
            }
        }
        Check.end();
    }

    private static void lookAt(String line, int number) {
        String code = withoutComment(line);
        for (String banned : BANNED) {
            Check.that("line " + number + " holds " + banned, !code.contains(banned));
        }
        if (code.contains("import ")) {
            Check.that("line " + number + " imports another thing", code.equals("import java.util.ArrayList;"));
        }
        if (code.contains("throw ")) {
            Check.that("line " + number + " throws another thing", THROWN.stream().anyMatch(code.trim()::startsWith));
        }
        boolean isPlain = line.chars().allMatch(sign -> sign >= 32 && sign <= 126);
        Check.that("line " + number + " holds a sign that is not plain", isPlain);
    }

    private static String withoutComment(String line) {
        String trimmed = line.trim();
        if (trimmed.startsWith("*") || trimmed.startsWith("/*")) {
            return "";
        }
        int comment = line.indexOf("//");
        return comment < 0 ? line : line.substring(0, comment);
    }
}
