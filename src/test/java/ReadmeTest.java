import java.io.ByteArrayOutputStream;
import java.io.IOException;
import java.lang.reflect.Field;
import java.lang.reflect.Method;
import java.lang.reflect.Modifier;
import java.net.URL;
import java.net.URLClassLoader;
import java.nio.file.DirectoryStream;
import java.nio.file.Files;
import java.nio.file.Path;
import java.util.ArrayList;
import java.util.List;
import java.util.Set;
import java.util.TreeSet;
import java.util.regex.Matcher;
import java.util.regex.Pattern;
import javax.tools.ToolProvider;

/**
 * What README.md shows compiles, and answers and prints as README.md says: its whole program by the commands
 * shown below it, its rows of calls by what stands behind their '//', its tables and its list of tests.
 */
public final class ReadmeTest {
    private static final Path README = Path.of("README.md");
    private static final Path TESTS = Path.of("src/test/java");
    private static final Path BUILD = Path.of("build/readme");
    private static final Pattern BLOCK = Pattern.compile("(?ms)^```(\\w+)\\n(.*?)^```$");
    private static final Pattern PROGRAM = Pattern.compile("public final class (\\w+)");
    private static final Pattern ANSWERED = Pattern.compile("(?:int (\\w+) = )?(town\\.\\w+\\(.*\\)); *// (-?\\d+|[A-Z]+)(?:: .*)?");

    public static void main(String[] args) throws Exception {
        Files.createDirectories(BUILD);
        String readme = Files.readString(README);
        List<String> rows = new ArrayList<>();
        List<String> commands = new ArrayList<>();
        String prints = "";
        Matcher block = BLOCK.matcher(readme);
        while (block.find()) {
            Matcher program = PROGRAM.matcher(block.group(2));
            switch (block.group(1)) {
                case "java":
                    if (program.find()) {
                        Files.writeString(BUILD.resolve(program.group(1) + ".java"), block.group(2));
                    } else {
                        rows.addAll(List.of(block.group(2).split("\n")));
                    }
                    break;
                case "sh": commands.add(block.group(2)); break;
                case "text": prints += block.group(2); break;
                default: Check.due("a block of " + block.group(1), 1, 0); break;
            }
        }
        program(commands, prints);
        calls(rows);
        everyCall(rows);
        tables(readme);
        tests(readme);
        Check.end();
    }

    /** Runs the commands as they are shown, each but .ci/run, in which this test stands itself. */
    private static void program(List<String> commands, String prints) throws Exception {
        StringBuilder printed = new StringBuilder();
        int run = 0;
        for (String command : commands) {
            if (!command.startsWith(".ci/run")) {
                Process shell = new ProcessBuilder("sh", "-e", "-c", command).redirectErrorStream(true).start();
                String out = new String(shell.getInputStream().readAllBytes());
                Check.due("exit code of " + command + out, shell.waitFor(), 0);
                printed.append(command.contains("MyTown") ? out : "");
                run++;
            } else {
                Check.due(".ci/run can be run", Files.isExecutable(Path.of(".ci/run")) ? 1 : 0, 1);
            }
        }
        Check.due("commands were run", run > 0 ? 1 : 0, 1);
        Check.due("it prints\n" + printed + "README.md says\n" + prints, printed.toString().equals(prints) && !prints.isEmpty() ? 1 : 0, 1);
    }

    /** Compiles the rows as one run, each answer looked at, and runs them. */
    private static void calls(List<String> rows) throws Exception {
        StringBuilder source = new StringBuilder("public final class ReadmeCalls {\npublic static void run(java.util.List<Object[]> answers) {\n");
        for (String row : rows) {
            Matcher answered = ANSWERED.matcher(row);
            boolean isAnswered = answered.matches();
            Check.due("README.md tells an answer in: " + row, isAnswered || !row.matches("(int \\w+ = )?town\\..*") ? 1 : 0, 1);
            source.append(isAnswered ? checked(answered) : row).append("\n");
        }
        Path file = BUILD.resolve("ReadmeCalls.java");
        Files.writeString(file, source + "}\n}\n");
        ByteArrayOutputStream said = new ByteArrayOutputStream();
        int compiled = ToolProvider.getSystemJavaCompiler().run(null, said, said, "--release", "17", "-cp", System.getProperty("java.class.path"), "-d", BUILD.toString(), file.toString());
        Check.due("README.md's rows compile\n" + said, compiled, 0);
        List<Object[]> answers = new ArrayList<>();
        if (compiled == 0) {
            try (URLClassLoader loader = new URLClassLoader(new URL[] {BUILD.toUri().toURL()}, ReadmeTest.class.getClassLoader())) {
                loader.loadClass("ReadmeCalls").getMethod("run", List.class).invoke(null, answers);
            }
        }
        for (Object[] answer : answers) {
            Check.due("README.md: " + answer[0], (Long) answer[1], (Long) answer[2]);
        }
    }

    private static String checked(Matcher answered) {
        String name = answered.group(1);
        String call = answered.group(2);
        String want = answered.group(3).matches("[A-Z]+") ? "RedrawnLines." + answered.group(3) : answered.group(3);
        String made = name == null ? "" : "int " + name + " = " + call + "; ";
        return made + "answers.add(new Object[] {\"" + call + "\", (long) " + (name == null ? call : name) + ", (long) " + want + "});";
    }

    /** README.md shows each call of the face, and no more of them than an object is good for. */
    private static void everyCall(List<String> rows) {
        String all = String.join("\n", rows);
        for (Method m : RedrawnLines.class.getDeclaredMethods()) {
            if (Modifier.isPublic(m.getModifiers())) {
                Check.due("README.md shows " + m.getName(), all.contains("town." + m.getName() + "(") ? 1 : 0, 1);
            }
        }
        Check.due("README.md shows 400 calls at most", rows.size() <= 400 ? 1 : 0, 1);
    }

    /** The tables' numbers are the class's: each refusal by its constant, each FAULT by a call that comes to it. */
    private static void tables(String readme) throws Exception {
        Set<String> refusals = new TreeSet<>();
        Matcher m = Pattern.compile("(?m)^\\| `(\\w+)` \\| (-?\\d+) \\|").matcher(readme);
        while (m.find()) {
            Field constant = RedrawnLines.class.getField(m.group(1));
            Check.due("README.md's " + m.group(1), constant.getLong(null), Long.parseLong(m.group(2)));
            refusals.add(m.group(1));
        }
        Check.due("README.md's refusals " + refusals, refusals.equals(Set.of("UNKNOWN", "OUTSIDE", "STATE", "FULL")) ? 1 : 0, 1);
        Check.due("README.md's NONE", readme.contains("`NONE`, " + RedrawnLines.NONE + ",") ? 1 : 0, 1);
        int faults = 0;
        m = Pattern.compile("(?m)^\\| ([A-Z]+) \\| (\\d) \\| (-\\d+) \\|").matcher(readme);
        while (m.find()) {
            RedrawnLines town = new RedrawnLines();
            Check.due("README.md's " + m.group(1), come(town, m.group(1)), Long.parseLong(m.group(3)));
            Check.due("fault() of " + m.group(1), town.fault(), Long.parseLong(m.group(2)));
            faults++;
        }
        Check.due("README.md's FAULTS", faults, 4);
    }

    private static int come(RedrawnLines town, String fault) {
        switch (fault) {
            case "NULL": return town.put(0, 0, 0);
            case "CAST": town.sheet(0, 0, 1); return town.text(0, 1, 0, 1);
            case "INDEX": town.sheet(0, 0, 1); return town.put(0, 1, 0);
            case "SIZE": return town.sheet(0, 0, -1);
            default: return 0;
        }
    }

    /** README.md names every test of the project, and none that there is not. */
    private static void tests(String readme) throws IOException {
        Set<String> named = new TreeSet<>();
        Matcher m = Pattern.compile("\\b\\w+Test\\b").matcher(readme);
        while (m.find()) {
            named.add(m.group());
        }
        Set<String> there = new TreeSet<>();
        try (DirectoryStream<Path> files = Files.newDirectoryStream(TESTS, "*Test.java")) {
            for (Path file : files) {
                there.add(file.getFileName().toString().replace(".java", ""));
            }
        }
        Check.due("README.md names " + named + ", there are " + there, named.equals(there) ? 1 : 0, 1);
    }
}
