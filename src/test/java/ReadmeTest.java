import java.io.File;
import java.lang.reflect.InvocationTargetException;
import java.net.URL;
import java.net.URLClassLoader;
import java.nio.file.Files;
import java.nio.file.Path;
import java.util.ArrayList;
import java.util.List;
import java.util.Set;
import java.util.TreeSet;
import java.util.regex.Matcher;
import java.util.regex.Pattern;
import java.util.stream.Stream;
import javax.tools.ToolProvider;

/** What README.md tells is so: its code is compiled and run, its answers are due, its tests and paths are there. */
public final class ReadmeTest {
    private static final Pattern ANSWERED = Pattern.compile("(\\w[\\w.]*\\(.*\\));\\s*// (-?\\d+): .+");
    private static final Pattern NAMED_TEST = Pattern.compile("`(\\w+Test)`");
    private static final Pattern NAMED_PATH = Pattern.compile("(?:^|[ `(])((?:\\.\\./shared|src|\\.ci)(?:/[\\w.]+)+)");
    private static final int FEWEST_ANSWERS = 20;

    public static void main(String[] args) throws Exception {
        List<String> lines = Files.readAllLines(Path.of("README.md"));
        runCode(blocks(lines));
        compareTests(String.join("\n", lines));
        findPaths(lines);
        Told.due(".ci/run is executable", Files.isExecutable(Path.of(".ci/run")) ? 1 : 0, 1);
        Told.end();
    }

    private static List<List<String>> blocks(List<String> lines) {
        List<List<String>> blocks = new ArrayList<>();
        boolean inside = false;
        for (String line : lines) {
            if (line.startsWith("```")) {
                inside = line.equals("```java");
                if (inside) {
                    blocks.add(new ArrayList<>());
                }
            } else if (inside) {
                blocks.get(blocks.size() - 1).add(line);
            }
        }
        return blocks;
    }

    /** Methods of the first block are called by the second; each of its calls that tells an answer is compared. */
    private static void runCode(List<List<String>> blocks) throws Exception {
        Told.due("blocks of code", blocks.size(), 2);
        if (blocks.size() != 2) {
            return;
        }
        StringBuilder source = new StringBuilder("public final class ReadmeCode {\n");
        source.append(String.join("\n", blocks.get(0))).append("\nstatic long wrong;\n");
        source.append("static void due(String call, long got, long want) { if (got != want) { wrong++;\n");
        source.append("System.out.println(\"README: \" + call + \" answers \" + got + \", it tells \" + want); } }\n");
        source.append("public static long run() {\n");
        int answers = 0;
        for (String line : blocks.get(1)) {
            Matcher m = ANSWERED.matcher(line.strip());
            if (m.matches()) {
                answers++;
                String call = m.group(1).replace("\"", "\\\"");
                source.append("due(\"").append(call).append("\", ").append(m.group(1)).append(", ");
                source.append(m.group(2)).append("L);\n");
            } else {
                Told.due("a call without its answer: " + line, line.startsWith("b.") || line.startsWith("tell(") ? 1 : 0, 0);
                source.append(line).append('\n');
            }
        }
        source.append("return wrong;\n}\n}\n");
        Told.due("enough answers are told", Math.min(answers, FEWEST_ANSWERS), FEWEST_ANSWERS);
        Told.due("wrong answers in README.md", compileAndRun(source.toString()), 0);
    }

    private static long compileAndRun(String source) throws Exception {
        Path directory = Files.createTempDirectory("readme");
        Path file = directory.resolve("ReadmeCode.java");
        try {
            Files.writeString(file, source);
            int code = ToolProvider.getSystemJavaCompiler().run(null, null, null, "-cp",
                    System.getProperty("java.class.path"), "-d", directory.toString(), file.toString());
            Told.due("the compiler of README.md's code", code, 0);
            if (code != 0) {
                return 0;
            }
            try (URLClassLoader loader = new URLClassLoader(new URL[] {directory.toUri().toURL()})) {
                return (Long) loader.loadClass("ReadmeCode").getMethod("run").invoke(null);
            } catch (InvocationTargetException thrown) {
                System.out.println("README.md's code threw " + thrown.getCause());
                return 1;
            }
        } finally {
            for (File made : directory.toFile().listFiles()) {
                made.delete();
            }
            Files.delete(directory);
        }
    }

    private static void compareTests(String readme) throws Exception {
        Set<String> told = new TreeSet<>();
        Matcher m = NAMED_TEST.matcher(readme);
        while (m.find()) {
            told.add(m.group(1));
        }
        Set<String> there = new TreeSet<>();
        try (Stream<Path> files = Files.list(Path.of("src/test/java"))) {
            files.forEach(file -> there.add(file.getFileName().toString().replace(".java", "")));
        }
        for (String name : there) {
            Told.due("README.md tells of " + name, told.contains(name) ? 1 : 0, 1);
        }
        for (String name : told) {
            Told.due("there is a test " + name, there.contains(name) ? 1 : 0, 1);
        }
    }

    private static void findPaths(List<String> lines) {
        int found = 0;
        for (String line : lines) {
            Matcher m = NAMED_PATH.matcher(line);
            while (m.find()) {
                found++;
                Told.due("there is " + m.group(1), Files.exists(Path.of(m.group(1))) ? 1 : 0, 1);
            }
        }
        Told.due("paths are told", found > 0 ? 1 : 0, 1);
    }
}
