import java.lang.reflect.Method;
import java.net.URL;
import java.net.URLClassLoader;
import java.nio.file.Files;
import java.nio.file.Path;
import java.util.ArrayList;
import java.util.List;
import java.util.TreeSet;
import java.util.regex.Matcher;
import java.util.regex.Pattern;
import java.util.stream.Collectors;
import java.util.stream.Stream;
import javax.tools.ToolProvider;

/** README.md: its example compiles and gives the answers that it tells, and what it names is there. */
final class ReadmeTest {
    private static final Pattern CALL = Pattern.compile("(x\\.\\w+\\(.*\\)); +// (-?\\d+)(: .+)?");
    private static final Pattern CONSTANT = Pattern.compile("`([A-Z]+)` \\((-\\d+)\\)");
    private static final Check CHECK = new Check();

    public static void main(String[] args) throws Exception {
        String readme = Files.readString(Path.of("README.md"));
        example(readme);
        constants(readme);
        names(readme);
        CHECK.end();
    }

    private static void example(String readme) throws Exception {
        String block = readme.substring(readme.indexOf("```java\n") + 8);
        block = block.substring(0, block.indexOf("```"));
        String[] lines = block.split("\n");
        CHECK.due("the example begins with a new object", lines[0].equals("EdgesFit x = new EdgesFit();") ? 1 : 0, 1);
        List<String> calls = new ArrayList<>();
        List<Long> told = new ArrayList<>();
        for (int i = 1; i < lines.length; i++) {
            Matcher line = CALL.matcher(lines[i]);
            boolean call = line.matches();
            CHECK.due("a call with its answer: " + lines[i], call ? 1 : 0, 1);
            if (call) {
                calls.add(line.group(1));
                told.add(Long.parseLong(line.group(2)));
            }
        }
        CHECK.due("the example has calls", calls.isEmpty() ? 0 : 1, 1);
        long[] answers = answers(block, lines[0], calls);
        for (int i = 0; i < answers.length; i++) {
            CHECK.due("README.md: " + calls.get(i), answers[i], told.get(i));
        }
    }

    /** What the example's calls answer: it is compiled as it stands, and once more with each answer kept. */
    private static long[] answers(String block, String start, List<String> calls) throws Exception {
        String kept = calls.stream().map(call -> "answers[i++] = " + call + ";\n").collect(Collectors.joining());
        String text = "public final class Example {\n"
            + "static void asItStands() {\n" + block + "}\n"
            + "public static long[] answers() {\nlong[] answers = new long[" + calls.size() + "];\nint i = 0;\n"
            + start + "\n" + kept + "return answers;\n}\n}\n";
        Path directory = Files.createTempDirectory("readme");
        Path source = directory.resolve("Example.java");
        Path compiled = directory.resolve("Example.class");
        try {
            Files.writeString(source, text);
            String classes = System.getProperty("java.class.path");
            int code = ToolProvider.getSystemJavaCompiler().run(null, null, null, "-cp", classes, "-d", directory.toString(), source.toString());
            CHECK.due("the compiler's exit code on the example", code, 0);
            return code == 0 ? run(directory) : new long[0];
        } finally {
            Files.deleteIfExists(source);
            Files.deleteIfExists(compiled);
            Files.deleteIfExists(directory);
        }
    }

    private static long[] run(Path directory) throws Exception {
        try (URLClassLoader loader = new URLClassLoader(new URL[] {directory.toUri().toURL()})) {
            Method answers = loader.loadClass("Example").getMethod("answers");
            return (long[]) answers.invoke(null);
        }
    }

    private static void constants(String readme) throws Exception {
        TreeSet<String> seen = new TreeSet<>();
        Matcher matcher = CONSTANT.matcher(readme);
        while (matcher.find()) {
            seen.add(matcher.group(1));
            int value = EdgesFit.class.getField(matcher.group(1)).getInt(null);
            CHECK.due("README.md: " + matcher.group(1), Integer.parseInt(matcher.group(2)), value);
        }
        CHECK.due("constants that README.md tells: " + seen, seen.size(), 5);
        EdgesFit x = new EdgesFit();
        x.cell(1, 0);
        CHECK.due("put that is UNKNOWN", tells(readme, x.put(0, 0, 0, 0, 0) + " for `UNKNOWN`"), 1);
        CHECK.due("put that is OUTSIDE", tells(readme, x.put(0, 1, 8, 0, 0) + " for `OUTSIDE`"), 1);
        CHECK.due("put that leaves the rows", tells(readme, x.put(0, 1, -1, 0, 0) + " if a cell leaves the rows"), 1);
    }

    private static int tells(String readme, String words) {
        return readme.contains(words) ? 1 : 0;
    }

    /** Each file of tests is named, and each test that is named is there. */
    private static void names(String readme) throws Exception {
        try (Stream<Path> files = Files.list(Path.of("src/test/java"))) {
            for (Path file : files.sorted().collect(Collectors.toList())) {
                String name = file.getFileName().toString().replace(".java", "");
                CHECK.due("README.md names " + name, tells(readme, "`" + name + "`"), 1);
            }
        }
        Matcher matcher = Pattern.compile("`(\\w+Test)`").matcher(readme);
        while (matcher.find()) {
            boolean there = Files.exists(Path.of("src/test/java/" + matcher.group(1) + ".java"));
            CHECK.due(matcher.group(1) + " is there", there ? 1 : 0, 1);
        }
        for (String path : new String[] {"src/main/java/EdgesFit.java", ".ci/run", "../shared/DOC.md", "../shared/LANGUAGE.md", "../shared/tests"}) {
            CHECK.due("README.md names " + path, tells(readme, path), 1);
            CHECK.due(path + " is there", Files.exists(Path.of(path)) ? 1 : 0, 1);
        }
    }
}
