import java.io.File;
import java.io.IOException;
import java.nio.charset.StandardCharsets;
import java.nio.file.Files;
import java.nio.file.Path;
import java.util.ArrayList;
import java.util.Comparator;
import java.util.List;
import java.util.Set;
import java.util.TreeSet;
import java.util.regex.Matcher;
import java.util.regex.Pattern;
import java.util.stream.Stream;

/**
 * What README.md shows is done as it stands there: its programs are compiled and run, its calls answer
 * what stands behind them, its commands end well, in a folder that looks like the project's.
 */
public final class ReadmeTest {
    private static final Check CHECK = new Check();
    private static final Path ROOT = Path.of(System.getProperty("project.root", ".")).toAbsolutePath().normalize();
    private static final Pattern BLOCK = Pattern.compile("(?ms)^```(\\w+)\n(.*?)^```$");
    private static final Pattern CALL = Pattern.compile("(?m)^(x\\.\\w+\\([^\n]*\\));( *// ([^\n]*))?$");
    private static final Pattern ANSWER = Pattern.compile("(-?\\d+)([: ].*)?");

    /** What stands between the fences, and of what kind they say it is. */
    private record Block(String kind, String text) {
    }

    private final Path folder;
    private final Path work;

    private ReadmeTest(Path folder) throws IOException {
        this.folder = folder;
        work = Files.createDirectory(folder.resolve("main"));
        Files.createSymbolicLink(work.resolve("src"), ROOT.resolve("src"));
        Files.createSymbolicLink(work.resolve("README.md"), ROOT.resolve("README.md"));
        Files.createSymbolicLink(folder.resolve("shared"), ROOT.resolve("../shared").normalize());
    }

    public static void main(String[] args) throws Exception {
        String readme = Files.readString(ROOT.resolve("README.md"));
        Path folder = Files.createTempDirectory("readme");
        try {
            new ReadmeTest(folder).tryAll(blocksOf(readme));
        } finally {
            delete(folder);
        }
        checkTestsAreNamed(readme);
        checkConstantsAreNamed(readme);
        CHECK.end();
    }

    private static List<Block> blocksOf(String readme) {
        List<Block> blocks = new ArrayList<>();
        Matcher m = BLOCK.matcher(readme);
        while (m.find()) {
            blocks.add(new Block(m.group(1), m.group(2)));
        }
        return blocks;
    }

    private static void delete(Path folder) throws IOException {
        try (Stream<Path> all = Files.walk(folder)) {
            for (Path path : all.sorted(Comparator.reverseOrder()).toList()) {
                Files.delete(path);
            }
        }
    }

    private void tryAll(List<Block> blocks) throws Exception {
        int shown = 0;
        String printed = "";
        for (Block block : blocks) {
            switch (block.kind()) {
                case "java": tryJava(block.text(), shown++); break;
                case "sh": printed = tryCommands(block.text()); break;
                case "text": CHECK.holds("it prints\n" + block.text() + "but it printed\n" + printed, printed.equals(block.text())); break;
                default: CHECK.holds("a block of java, sh or text: " + block.kind(), false);
            }
        }
        CHECK.holds("there are blocks of java", shown > 0);
    }

    private void tryJava(String text, int number) throws Exception {
        Matcher name = Pattern.compile("public final class (\\w+)").matcher(text);
        if (name.find()) {
            // A whole program: the commands behind it compile and run it.
            Files.writeString(work.resolve(name.group(1) + ".java"), text);
            return;
        }
        String shown = "Shown" + number;
        Files.writeString(folder.resolve(shown + ".java"), programOf(shown, text));
        String classes = System.getProperty("java.class.path");
        run(List.of(tool("javac"), "-cp", classes, "-d", folder.toString(), folder.resolve(shown + ".java").toString()));
        run(List.of(tool("java"), "-Dproject.root=" + ROOT, "-cp", classes + File.pathSeparator + folder, shown));
    }

    private static String tool(String name) {
        return Path.of(System.getProperty("java.home"), "bin", name).toString();
    }

    /** Each call with an answer behind it is asked for that answer; all other rows stay as they are. */
    private static String programOf(String name, String text) {
        Matcher m = CALL.matcher(text);
        StringBuilder rows = new StringBuilder();
        while (m.find()) {
            Matcher answer = ANSWER.matcher(m.group(3) == null ? "" : m.group(3));
            CHECK.holds("an answer stands behind " + m.group(1), answer.matches());
            String row = "check.due(\"README.md: " + m.group(1) + "\", " + m.group(1) + ", " + (answer.matches() ? answer.group(1) : "0") + "L);";
            m.appendReplacement(rows, Matcher.quoteReplacement(row));
        }
        m.appendTail(rows);
        boolean asks = rows.indexOf("check.due") >= 0;
        return "final class " + name + " {\npublic static void main(String[] args) {\n"
            + (asks ? "Check check = new Check();\n" : "") + rows + (asks ? "check.end();\n" : "") + "}\n}\n";
    }

    private String tryCommands(String text) throws Exception {
        if (text.strip().equals(".ci/run")) {
            // It runs this test, so it is not run from here.
            CHECK.holds(".ci/run can be run", Files.isExecutable(ROOT.resolve(".ci/run")));
            return "";
        }
        return run(List.of("sh", "-e", "-c", text));
    }

    private String run(List<String> command) throws Exception {
        ProcessBuilder builder = new ProcessBuilder(command).directory(work.toFile()).redirectErrorStream(true);
        // What a command makes with mktemp goes with the folder.
        builder.environment().put("TMPDIR", folder.toString());
        Process process = builder.start();
        process.getOutputStream().close();
        String printed = new String(process.getInputStream().readAllBytes(), StandardCharsets.UTF_8);
        int code = process.waitFor();
        CHECK.holds("it ends well: " + command + "\n" + printed, code == 0);
        return printed;
    }

    /** The table has every test of the project, and no other. */
    private static void checkTestsAreNamed(String readme) throws IOException {
        Set<String> named = new TreeSet<>();
        Matcher m = Pattern.compile("(?m)^\\| `(\\w+)` \\| [^\n|]+ \\|$").matcher(readme.substring(readme.indexOf("## Tests")));
        while (m.find()) {
            named.add(m.group(1));
        }
        Set<String> there = new TreeSet<>();
        try (Stream<Path> files = Files.list(ROOT.resolve("src/test/java"))) {
            files.map(p -> p.getFileName().toString()).filter(s -> s.endsWith("Test.java")).forEach(s -> there.add(s.replace(".java", "")));
        }
        CHECK.holds("README.md names " + there + ", it names " + named, named.equals(there));
    }

    private static void checkConstantsAreNamed(String readme) {
        String[] names = {"BAD", "NOT", "FULL", "NONE", "NULL", "CAST", "INDEX", "SIZE"};
        int[] answers = {
            ForceFrames.BAD, ForceFrames.NOT, ForceFrames.FULL, ForceFrames.NONE,
            ForceFrames.NULL, ForceFrames.CAST, ForceFrames.INDEX, ForceFrames.SIZE,
        };
        for (int i = 0; i < names.length; i++) {
            CHECK.holds("README.md tells " + names[i], readme.contains("| `" + names[i] + "` | " + answers[i] + " |"));
            Matcher m = Pattern.compile("// (-?\\d+): " + names[i] + "\\b").matcher(readme);
            while (m.find()) {
                CHECK.due("README.md: " + names[i], Long.parseLong(m.group(1)), answers[i]);
            }
        }
    }
}
