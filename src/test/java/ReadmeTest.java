import java.io.File;
import java.io.IOException;
import java.nio.file.Files;
import java.nio.file.Path;
import java.util.ArrayList;
import java.util.Comparator;
import java.util.List;
import java.util.regex.Matcher;
import java.util.regex.Pattern;
import java.util.stream.Stream;

/**
 * README.md: its commands go through, its program prints what stands there, and
 * each call answers what stands behind it. It is run from the project's folder,
 * and works on a copy of the sources in a folder of its own.
 */
public final class ReadmeTest {
    private static final Path PAGE = Path.of("README.md");
    private static final Path SOURCES = Path.of("src");
    private static final String RUNS_PROGRAM = "java -cp out Port";
    /** Running it from within itself would have no end. */
    private static final String RUNS_ALL_TESTS = ".ci/run";
    private static final Pattern CALL = Pattern.compile("\\s*(?:int (\\w+) = )?(quay\\..*\\));\\s+// ([^:]+)(?:: .*)?");

    private final String page;
    private final Path folder;

    private ReadmeTest(String page, Path folder) {
        this.page = page;
        this.folder = folder;
    }

    public static void main(String[] args) throws Exception {
        Path folder = Files.createTempDirectory("readme");
        try {
            ReadmeTest test = new ReadmeTest(Files.readString(PAGE), folder);
            test.copySources();
            test.commandsGoThrough();
            test.callsAnswerWhatStandsBehindThem();
        } finally {
            deleteAll(folder);
        }
        Check.end();
    }

    private void commandsGoThrough() throws Exception {
        Files.writeString(folder.resolve("Port.java"), blocks("java").get(0));
        String printed = "";
        for (String command : commands()) {
            String said = run(command);
            if (command.equals(RUNS_PROGRAM)) {
                printed = said;
            }
        }
        String due = blocks("text").get(0);
        Check.that("the program printed " + printed + ", due is " + due, printed.equals(due));
        Check.that(RUNS_ALL_TESTS + " cannot be run", Files.isExecutable(Path.of(RUNS_ALL_TESTS)));
    }

    private void callsAnswerWhatStandsBehindThem() throws Exception {
        List<String> due = new ArrayList<>();
        Files.writeString(folder.resolve("Port.java"), askingProgram(due));
        for (String command : commands()) {
            if (command.contains("Port") && !command.equals(RUNS_PROGRAM)) {
                run(command);
            }
        }
        List<String> answers = run(RUNS_PROGRAM).lines().toList();
        Check.that("the page shows too few calls: " + due, due.size() >= 20);
        Check.same("the number of answers, the program's own line among them,", answers.size(), due.size());
        for (int i = 0; i < Math.min(due.size(), answers.size()); i++) {
            Check.that(answers.get(i) + ", due is " + due.get(i), answers.get(i).equals(due.get(i)));
        }
    }

    /** The page's calls in one program that prints each with its answer; what it should print goes into the list. */
    private String askingProgram(List<String> due) throws ReflectiveOperationException {
        String first = blocks("java").get(0);
        int endOfMain = first.lastIndexOf("    }\n");
        String whole = first.substring(0, endOfMain) + blocks("java").get(1) + first.substring(endOfMain);
        StringBuilder asking = new StringBuilder();
        for (String line : whole.split("\n")) {
            Matcher call = CALL.matcher(line);
            if (call.matches()) {
                String answer = call.group(3).trim();
                due.add(call.group(2) + " " + valueOf(answer));
                asking.append(asked(call.group(1), call.group(2), answer)).append('\n');
                continue;
            }
            asking.append(line).append('\n');
            if (line.contains("System.out.println")) {
                due.add(blocks("text").get(0).trim());
            } else {
                Check.that("there is no answer behind" + line, !line.contains("quay."));
            }
        }
        return asking.toString();
    }

    private static String asked(String name, String call, String answer) {
        String shown = "System.out.println(\"" + call + " \" + ";
        if (name != null) {
            return "int " + name + " = " + call + "; " + shown + name + ");";
        }
        if (answer.startsWith("throws ")) {
            return "try { " + shown + call + "); } catch (RuntimeException e) { "
                + shown + "\"throws \" + e.getClass().getSimpleName()); }";
        }
        return shown + call + ");";
    }

    /** The number of a constant of the class; every other answer stands for itself. */
    private static String valueOf(String answer) throws ReflectiveOperationException {
        return answer.matches("[A-Z_]+") ? "" + QuayMesh.class.getField(answer).getInt(null) : answer;
    }

    private List<String> commands() {
        List<String> commands = new ArrayList<>();
        for (String block : blocks("sh")) {
            block.lines().filter(line -> !line.equals(RUNS_ALL_TESTS)).forEach(commands::add);
        }
        Check.that("the page does not run its program", commands.contains(RUNS_PROGRAM));
        return commands;
    }

    /** What stands between the page's fences of that sort. */
    private List<String> blocks(String sort) {
        List<String> found = new ArrayList<>();
        Matcher fence = Pattern.compile("```" + sort + "\n(.*?)```", Pattern.DOTALL).matcher(page);
        while (fence.find()) {
            found.add(fence.group(1));
        }
        return found;
    }

    /** Runs it as a reader would, in the folder with the copy, and gives what it prints. */
    private String run(String command) throws IOException, InterruptedException {
        File said = folder.resolve("said").toFile();
        Process process = new ProcessBuilder("sh", "-c", command)
            .directory(folder.toFile()).redirectOutput(said).redirectError(ProcessBuilder.Redirect.INHERIT).start();
        int code = process.waitFor();
        String text = Files.readString(said.toPath());
        Check.that(command + " ended with " + code + ": " + text, code == 0);
        return text;
    }

    private void copySources() throws IOException {
        for (Path from : all(SOURCES)) {
            Path to = folder.resolve(from.toString());
            if (Files.isDirectory(from)) {
                Files.createDirectories(to);
            } else {
                Files.copy(from, to);
            }
        }
    }

    private static void deleteAll(Path folder) throws IOException {
        List<Path> inside = new ArrayList<>(all(folder));
        inside.sort(Comparator.reverseOrder());
        for (Path each : inside) {
            Files.delete(each);
        }
    }

    private static List<Path> all(Path folder) throws IOException {
        try (Stream<Path> walk = Files.walk(folder)) {
            return walk.toList();
        }
    }
}
