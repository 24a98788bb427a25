import java.io.IOException;
import java.nio.charset.StandardCharsets;
import java.nio.file.Files;
import java.nio.file.Path;
import java.util.ArrayList;
import java.util.Comparator;
import java.util.List;
import java.util.TreeSet;
import java.util.regex.Matcher;
import java.util.regex.Pattern;
import java.util.stream.Collectors;
import java.util.stream.Stream;

/** What README.md says is so: its example is compiled and answers as it tells, its commands run as they stand, the files that it names are there. */
public final class ReadmeTest {
    private static final Pattern BLOCK = Pattern.compile("^```(\\w+)\n(.*?)^```$", Pattern.MULTILINE | Pattern.DOTALL);
    private static final Pattern CALL = Pattern.compile("(?:int (\\w+) = )?(x\\.\\w+\\(.*?\\));\\s*// (-?\\d+): .*");
    private static final String EVERYTHING = ".ci/run";
    private static int wrong = 0;

    private static void must(boolean ok, String what) {
        if (!ok) {
            wrong++;
            System.out.println(what);
        }
    }

    private static List<String> blocks(String page, String language) {
        List<String> found = new ArrayList<>();
        Matcher m = BLOCK.matcher(page);
        while (m.find()) {
            if (m.group(1).equals(language)) {
                found.add(m.group(2));
            }
        }
        return found;
    }

    /** Runs a line of a shell in a directory: the code with which it ended. */
    private static int shell(Path where, String line) throws IOException, InterruptedException {
        Process process = new ProcessBuilder("sh", "-c", line).directory(where.toFile()).redirectErrorStream(true).start();
        String told = new String(process.getInputStream().readAllBytes(), StandardCharsets.UTF_8);
        int code = process.waitFor();
        if (code != 0) {
            System.out.println(told);
        }
        return code;
    }

    /** The example as a program that ends with another code than 0 where an answer isn't as told. */
    private static String program(String example) {
        StringBuilder out = new StringBuilder("public class Example { static int wrong = 0;\n");
        out.append("static void due(String call, int got, int want) { if (got != want) { wrong++; ");
        out.append("System.out.println(call + \" answers \" + got + \", README tells \" + want); } }\n");
        out.append("public static void main(String[] args) {\n");
        for (String line : example.split("\n")) {
            Matcher m = CALL.matcher(line);
            if (m.matches()) {
                String answer = m.group(1) == null ? m.group(2) : m.group(1);
                out.append(m.group(1) == null ? "" : "int " + m.group(1) + " = " + m.group(2) + ";\n");
                out.append("due(\"" + m.group(2) + "\", " + answer + ", " + m.group(3) + ");\n");
            } else {
                must(line.equals("SameHeads x = new SameHeads();"), "README: no answer is told: " + line);
                out.append(line).append('\n');
            }
        }
        return out.append("System.exit(wrong == 0 ? 0 : 1); } }\n").toString();
    }

    private static void exampleAnswersAsTold(String page, Path root) throws IOException, InterruptedException {
        List<String> examples = blocks(page, "java");
        must(examples.size() == 1, "README: one example is due, there are " + examples.size());
        for (String example : examples) {
            Path where = Files.createDirectories(root.resolve("example"));
            Files.writeString(where.resolve("Example.java"), program(example));
            int code = shell(root, "javac -d example src/main/java/SameHeads.java example/Example.java && java -cp example Example");
            must(code == 0, "README: the example ended with " + code);
        }
    }

    private static void commandsRun(String page, Path root) throws IOException, InterruptedException {
        int everything = 0;
        int others = 0;
        for (String block : blocks(page, "sh")) {
            for (String line : block.split("\n")) {
                if (line.equals(EVERYTHING)) {
                    // It runs this test: here it is enough that it can be started.
                    must(Files.isExecutable(Path.of(EVERYTHING)), EVERYTHING + " can't be run");
                    everything++;
                } else {
                    int code = shell(root, line);
                    must(code == 0, "README: '" + line + "' ended with " + code);
                    others++;
                }
            }
        }
        must(everything == 1, "README: it doesn't tell how to run all tests");
        must(others > 0, "README: it doesn't tell how to run one test");
    }

    private static void filesAreNamed(String page) throws IOException {
        TreeSet<String> named = new TreeSet<>();
        Matcher m = Pattern.compile("`((?:\\.\\./|\\.ci/|src/)[^` ]*)`").matcher(page);
        while (m.find()) {
            named.add(m.group(1));
            must(Files.exists(Path.of(m.group(1))), "README: there is no " + m.group(1));
        }
        try (Stream<Path> files = Files.list(Path.of("src/test/java"))) {
            for (Path file : files.collect(Collectors.toList())) {
                must(named.contains(file.toString()), "README: it doesn't name " + file);
            }
        }
    }

    private static void findingsAreTold(String page) {
        String told = page.replaceAll("\\s+", " ");
        int last = Calls.LOW - Calls.FINDINGS.length + 1;
        must(told.contains("Answers of " + Calls.LOW + " to " + last + " are findings (" + String.join(", ", Calls.FINDINGS) + ")"),
            "README: the findings aren't told as they are");
    }

    private static void copyTree(Path from, Path to) throws IOException {
        try (Stream<Path> all = Files.walk(from)) {
            for (Path one : all.collect(Collectors.toList())) {
                Path there = to.resolve(from.relativize(one).toString());
                if (Files.isDirectory(one)) {
                    Files.createDirectories(there);
                } else {
                    Files.write(there, Files.readAllBytes(one));
                }
            }
        }
    }

    private static void removeTree(Path top) throws IOException {
        try (Stream<Path> all = Files.walk(top)) {
            for (Path one : all.sorted(Comparator.reverseOrder()).collect(Collectors.toList())) {
                Files.delete(one);
            }
        }
    }

    public static void main(String[] args) throws IOException, InterruptedException {
        String page = Files.readString(Path.of("README.md"));
        filesAreNamed(page);
        findingsAreTold(page);
        // The commands write beside the sources: they run on a copy, so that a test leaves nothing here.
        Path top = Files.createTempDirectory("readme");
        try {
            copyTree(Path.of("src"), Files.createDirectories(top.resolve("main")).resolve("src"));
            exampleAnswersAsTold(page, top.resolve("main"));
            commandsRun(page, top.resolve("main"));
        } finally {
            removeTree(top);
        }
        System.out.println(wrong == 0 ? "README says what is so" : wrong + " things are not as README says");
        if (wrong != 0) {
            System.exit(1);
        }
    }
}
