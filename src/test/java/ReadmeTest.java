import java.io.File;
import java.io.IOException;
import java.io.UncheckedIOException;
import java.nio.charset.StandardCharsets;
import java.nio.file.Files;
import java.nio.file.Path;
import java.util.ArrayList;
import java.util.Comparator;
import java.util.List;
import java.util.Set;
import java.util.TreeSet;
import java.util.regex.Matcher;
import java.util.regex.Pattern;
import java.util.stream.Stream;

/** README.md is tried as it is written: its program, its commands, its tables. */
public final class ReadmeTest {
    private static final Path CLASS = Path.of("src/main/java/WeighedInBooks.java");
    private static final Path TESTS = Path.of("src/test/java");

    private static final class Outcome {
        final int exit;
        final List<String> lines;

        Outcome(int exit, List<String> lines) {
            this.exit = exit;
            this.lines = lines;
        }
    }

    private interface Work {
        void in(Path directory) throws IOException;
    }

    public static void main(String[] args) throws IOException {
        String page = Files.readString(Path.of("README.md"));
        Checks checks = new Checks();
        checks.test("README: the program is compiled and run by the commands, and tells what stands behind its calls",
            c -> inNewDirectory(directory -> program(c, page, directory)));
        checks.test("README: what a refused call answers", c -> refusals(c, page));
        checks.test("README: the command that runs all tests is there, and can be run", c -> runsAll(c, page));
        checks.test("README: the commands that run one test", c -> runsOne(c, page));
        checks.test("README: each test is named, and no other", c -> namesTests(c, page));
        checks.end();
    }

    /** The fenced parts of the page in a language, in their order. */
    private static List<String> parts(String page, String language) {
        List<String> parts = new ArrayList<>();
        Matcher fenced = Pattern.compile("(?ms)^```" + language + "\\n(.*?)^```$").matcher(page);
        while (fenced.find()) {
            parts.add(fenced.group(1));
        }
        return parts;
    }

    /** The lines that are typed, of those parts in which one begins as told. */
    private static List<String> commands(String page, String begin) {
        List<String> commands = new ArrayList<>();
        for (String part : parts(page, "sh")) {
            if (part.startsWith(begin)) {
                commands.addAll(List.of(part.split("\n")));
            }
        }
        return commands;
    }

    private static Outcome typed(String command, Path directory) {
        try {
            Process process = new ProcessBuilder("sh", "-c", command).directory(directory.toFile())
                .redirectErrorStream(true).redirectInput(ProcessBuilder.Redirect.from(new File("/dev/null"))).start();
            String told = new String(process.getInputStream().readAllBytes(), StandardCharsets.UTF_8);
            return new Outcome(process.waitFor(), told.isEmpty() ? List.of() : List.of(told.split("\\R")));
        } catch (IOException failed) {
            throw new UncheckedIOException(failed);
        } catch (InterruptedException ended) {
            throw new IllegalStateException(ended);
        }
    }

    private static void inNewDirectory(Work work) {
        try {
            Path directory = Files.createTempDirectory(Path.of("build"), "readme");
            try {
                work.in(directory);
            } finally {
                try (Stream<Path> all = Files.walk(directory)) {
                    for (Path one : all.sorted(Comparator.reverseOrder()).toList()) {
                        Files.delete(one);
                    }
                }
            }
        } catch (IOException failed) {
            throw new UncheckedIOException(failed);
        }
    }

    private static void program(Checks c, String page, Path directory) throws IOException {
        List<String> programs = parts(page, "java");
        c.due("programs", programs.size(), 1);
        String program = programs.get(0);
        Files.createDirectories(directory.resolve(CLASS).getParent());
        Files.copy(CLASS, directory.resolve(CLASS));
        Files.writeString(directory.resolve("YourProgram.java"), program);
        List<String> told = List.of();
        for (String command : commands(page, "javac")) {
            Outcome outcome = typed(command, directory);
            c.due(command + " " + outcome.lines, outcome.exit, 0);
            told = outcome.lines;
        }
        List<String> due = new ArrayList<>();
        for (String line : program.split("\n")) {
            if (line.matches(".*\\btell\\(\".*")) {
                due.add(line.replaceAll(".*\\btell\\(\"(\\w+)\".*\\); *// (-?\\d+): .*", "$1 $2"));
            }
        }
        c.isTrue("the program tells nothing", due.size() > 0);
        c.isTrue("the program tells " + told + ", due is " + due, told.equals(due));
    }

    private static long number(String cell) {
        return cell.equals("-") ? 0 : Long.parseLong(cell);
    }

    /** Each refusal is asked of calls that just have it; 0 stands for none. */
    private static void refusals(Checks c, String page) {
        Matcher row = Pattern.compile("(?m)^\\| ([A-Z]+): .* \\| (\\S+) \\| (\\S+) \\| (\\S+) \\| `count\\((\\d+)\\)` \\|$")
            .matcher(page);
        Set<String> names = new TreeSet<>();
        while (row.find()) {
            names.add(row.group(1));
            WeighedInBooks x = Checks.town("p03940;p03905;");
            long[] answers = refused(x, row.group(1));
            c.due(row.group(1) + " of over(), overThen()", number(row.group(2)), answers[0]);
            c.due(row.group(1) + " of damp(), share()", number(row.group(3)), answers[1]);
            c.due(row.group(1) + " of another", number(row.group(4)), answers[2]);
            int many = (answers[0] == 0 ? 0 : 1) + (answers[1] == 0 ? 0 : 1) + 1;
            c.due(row.group(1) + " counted", x.count(Integer.parseInt(row.group(5))), many);
        }
        c.isTrue("the page has " + names, names.equals(Set.of("NOBODY", "OTHER", "STATE", "BELOW", "ROOM")));
    }

    private static long[] refused(WeighedInBooks x, String name) {
        switch (name) {
            case "NOBODY": return new long[] {x.over(0, 0), x.share(2, 0), x.person(2, 0)};
            case "OTHER": return new long[] {0, x.damp(0, 1, 0, 2, 2), x.kinds(8)};
            case "STATE": return new long[] {0, 0, x.restore()};
            case "BELOW": return new long[] {x.overThen(0, 1, -1), x.damp(0, 1, 0, 1, 0), x.weeks(0)};
            default: return new long[] {x.overThen(0, 1, 61), x.damp(0, 1, 8, 2, 0), x.feed(256)};
        }
    }

    private static void runsAll(Checks c, String page) {
        List<String> commands = commands(page, ".ci/run");
        c.isTrue("the page has " + commands, commands.equals(List.of(".ci/run")));
        c.isTrue(".ci/run can be run", Files.isExecutable(Path.of(".ci/run")));
    }

    private static void runsOne(Checks c, String page) {
        List<String> commands = commands(page, "java -cp build/own");
        c.isTrue("the page has none", commands.size() > 0);
        for (String command : commands) {
            Outcome outcome = typed(command, Path.of("."));
            c.due(command, outcome.exit, 0);
            c.isTrue(command + " tells nothing", outcome.lines.size() > 0);
            for (String line : outcome.lines) {
                c.isTrue(command + " tells " + line, line.startsWith("ok "));
            }
        }
    }

    private static void namesTests(Checks c, String page) {
        Set<String> named = new TreeSet<>();
        Matcher row = Pattern.compile("(?m)^\\| (`\\w+Test`(?:, `\\w+Test`)*) \\| ").matcher(page);
        while (row.find()) {
            named.addAll(List.of(row.group(1).replace("`", "").split(", ")));
        }
        Set<String> there = new TreeSet<>();
        for (File file : TESTS.toFile().listFiles()) {
            if (file.getName().endsWith("Test.java")) {
                there.add(file.getName().replace(".java", ""));
            }
        }
        c.isTrue("named are " + named + ", there are " + there, named.equals(there));
    }
}
