import java.io.File;
import java.io.IOException;
import java.lang.reflect.Method;
import java.lang.reflect.Modifier;
import java.nio.file.Files;
import java.nio.file.Path;
import java.util.ArrayList;
import java.util.List;
import java.util.TreeSet;
import java.util.regex.Matcher;
import java.util.regex.Pattern;
import java.util.stream.Stream;

/** README.md: its calls are made and its commands run, as they stand there. Runs in the project's folder. */
public final class ReadmeTest extends Checks {
    // A call that ends its line, with its answer behind it; what is behind a colon says why.
    private static final Pattern ANSWERED = Pattern.compile("(?s)(.*);\\s*// ([^:\\n]+)(:.*)?");

    public static void main(String[] args) throws Exception {
        String page = Files.readString(Path.of("README.md"));
        callsAnswerAsShown(page);
        commandsWork(page);
        testsAreListed(page);
        end();
    }

    /** The blocks of one kind, each without the blanks ahead of it. */
    private static List<String> blocks(String page, String kind) {
        List<String> all = new ArrayList<>();
        Matcher m = Pattern.compile("(?ms)^( *)```" + kind + "\n(.*?)^\\1```$").matcher(page);
        while (m.find()) {
            all.add(m.group(2).replaceAll("(?m)^" + m.group(1), ""));
        }
        return all;
    }

    private static void callsAnswerAsShown(String page) throws Exception {
        List<String> shown = blocks(page, "java");
        due("blocks of Java", shown.size(), 2);
        if (shown.size() != 2) {
            return;
        }
        List<String> lines = checksOf(shown.get(1));
        String program = "import java.util.NoSuchElementException;\npublic final class Shown extends Checks {\n" + shown.get(0).replace("int feed(", "int feedShown(")
            + "public static void main(String[] args) {\n" + String.join("\n", lines).replace("feed(x, ", "feedShown(x, ") + "\nend();\n}\n}\n";
        Path folder = Files.createTempDirectory("readme");
        Path file = folder.resolve("Shown.java");
        Files.writeString(file, program);
        String classes = System.getProperty("java.class.path");
        due("what README.md shows compiles", run("javac", "-d", folder.toString(), "-cp", classes, file.toString()), 0);
        due("what README.md shows is answered", run("java", "-cp", folder + File.pathSeparator + classes, "Shown"), 0);
        delete(folder);
    }

    /** For each call shown a check of its answer; a call without one is told as wrong. */
    private static List<String> checksOf(String calls) {
        List<String> checks = new ArrayList<>();
        TreeSet<String> seen = new TreeSet<>();
        for (String statement : calls.replaceAll("(?m)^// .*\n", "").split("\n(?=\\S)")) {
            Matcher m = ANSWERED.matcher(statement.trim());
            if (statement.isBlank()) {
                continue;
            }
            if (statement.startsWith("LightClassifier x = ")) {
                checks.add(statement);
            } else if (!m.matches()) {
                tellWrong("README.md shows a call without its answer: " + statement);
            } else {
                checks.add(checkOf(m.group(1), m.group(2).trim()));
                seen.add(m.group(1).replaceAll("(?s)^x\\.(\\w+)\\(.*", "$1"));
            }
        }
        // What feeds the TAPE is shown in the first block.
        seen.add("feed");
        due("calls shown", seen.toString(), callsOfTheFace().toString());
        return checks;
    }

    private static TreeSet<String> callsOfTheFace() {
        TreeSet<String> names = new TreeSet<>();
        for (Method m : LightClassifier.class.getDeclaredMethods()) {
            if (Modifier.isPublic(m.getModifiers())) {
                names.add(m.getName());
            }
        }
        return names;
    }

    private static String checkOf(String call, String answer) {
        String told = "\"" + call.replaceAll("\\s*\n\\s*", " ").replace("\\", "\\\\").replace("\"", "\\\"") + "\"";
        if (answer.startsWith("throws ")) {
            return "refused(" + told + ", " + answer.substring(7) + ".class, () -> " + call + ");";
        }
        return "due(" + told + ", " + call + ", " + answer + ");";
    }

    private static void commandsWork(String page) throws Exception {
        int tried = 0;
        for (String commands : blocks(page, "sh")) {
            if (commands.trim().equals(".ci/run")) {
                // It runs this test, so it is not run from here.
                due(".ci/run can be run", Files.isExecutable(Path.of(".ci/run")), true);
                continue;
            }
            tried++;
            due("the commands " + commands, run("sh", "-e", "-c", commands.replace("out=$(mktemp -d)", "out=$(mktemp -d)\ntrap 'rm -rf \"$out\"' EXIT")), 0);
        }
        due("commands tried", tried > 0, true);
    }

    private static void testsAreListed(String page) throws IOException {
        TreeSet<String> listed = new TreeSet<>();
        Matcher items = Pattern.compile("(?m)^- ((`\\w+Test`(, )?)+):").matcher(page);
        while (items.find()) {
            for (String name : items.group(1).split(", ")) {
                listed.add(name.replace("`", "") + ".java");
            }
        }
        TreeSet<String> there = new TreeSet<>();
        try (Stream<Path> files = Files.list(Path.of("src/test/java"))) {
            files.forEach(f -> there.add(f.getFileName().toString()));
        }
        due("tests in the list of README.md", listed.toString(), there.toString());
    }

    /** The exit code of a command, whose words come among those of this test. */
    private static int run(String... command) throws Exception {
        return new ProcessBuilder(command).inheritIO().start().waitFor();
    }

    private static void delete(Path folder) throws IOException {
        try (Stream<Path> files = Files.list(folder)) {
            for (Path file : (Iterable<Path>) files::iterator) {
                Files.delete(file);
            }
        }
        Files.delete(folder);
    }
}
