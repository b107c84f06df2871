import java.lang.reflect.Method;
import java.net.URL;
import java.net.URLClassLoader;
import java.nio.file.Files;
import java.nio.file.Path;
import java.util.ArrayList;
import java.util.List;
import java.util.TreeSet;
import java.util.regex.Matcher;
import java.util.regex.Pattern;
import java.util.stream.Stream;
import javax.tools.JavaCompiler;
import javax.tools.ToolProvider;

/**
 * What README.md shows: its Java is compiled as it stands, and each call that has its answer behind it
 * ("store.van(10);  // 3: ..") is held against the class.
 */
public final class ReadmeTest {
    private static final Pattern BLOCK = Pattern.compile("(?ms)^```java\\n(.*?)^```$");
    private static final Pattern CALL = Pattern.compile("store\\.(\\w+)\\(");
    private static final Pattern ANSWERED = Pattern.compile(
        "(?:int \\w+ = )?(store\\.(\\w+)\\([^;]*\\)); +// (true|false|NONE(?: - 1000000)?|-?[0-9]+)(?::.*)?");
    private static final String SHOWN = "ReadmeShown";
    private static final int MOST_CALLS = 512;

    private ReadmeTest() {
    }

    public static void main(String[] args) throws Exception {
        String readme = Files.readString(Path.of("README.md"));
        List<String> blocks = blocks(readme);
        allAnswered(blocks);
        namesAllTests(readme);
        for (Object[] row : rows(source(blocks))) {
            Check.due("README.md: " + row[0], number(row[1]), number(row[2]));
        }
        Check.finish();
    }

    private static List<String> blocks(String readme) {
        List<String> blocks = new ArrayList<>();
        Matcher found = BLOCK.matcher(readme);
        while (found.find()) {
            blocks.add(found.group(1));
        }
        return blocks;
    }

    /** Blocks that begin with "static" are methods; all others are one run of calls. */
    private static boolean isMethods(String block) {
        return block.startsWith("static");
    }

    /** No call is shown without its answer, and every one of the face is shown. */
    private static void allAnswered(List<String> blocks) {
        TreeSet<String> shown = new TreeSet<>();
        int calls = 0;
        for (String block : blocks) {
            for (String line : block.split("\n")) {
                Matcher answered = ANSWERED.matcher(line);
                if (answered.matches()) {
                    shown.add(answered.group(2));
                    calls++;
                } else {
                    Check.due("README.md has no answer: " + line, !isMethods(block) && CALL.matcher(line).find(), false);
                }
            }
        }
        TreeSet<String> face = new TreeSet<>();
        for (Method method : GreatStore.class.getMethods()) {
            if (method.getDeclaringClass() == GreatStore.class) {
                face.add(method.getName());
            }
        }
        Check.due("README.md shows " + shown + " of " + face, shown.equals(face), true);
        Check.due("README.md keeps to 512 calls", calls > 0 && calls < MOST_CALLS, true);
    }

    private static void namesAllTests(String readme) throws Exception {
        Check.due("README.md tells of .ci/run", readme.contains(".ci/run"), true);
        try (Stream<Path> files = Files.list(Path.of("src/test/java"))) {
            for (Path file : (Iterable<Path>) files::iterator) {
                String name = file.getFileName().toString().replace(".java", "");
                boolean named = !name.endsWith("Test") || readme.contains("`" + name + "`");
                Check.due("README.md tells of " + name, named, true);
            }
        }
    }

    private static String source(List<String> blocks) {
        StringBuilder methods = new StringBuilder();
        StringBuilder run = new StringBuilder();
        for (String block : blocks) {
            if (isMethods(block)) {
                methods.append(block);
            } else {
                for (String line : block.split("\n")) {
                    run.append(asked(line)).append('\n');
                }
            }
        }
        return "public final class " + SHOWN + " {\n"
            + "private static final int NONE = GreatStore.NONE;\n"
            + "private static final java.util.List<Object[]> rows = new java.util.ArrayList<>();\n"
            + "private static int told(String call, int got, int due) { rows.add(new Object[]{call, got, due}); return got; }\n"
            + "private static boolean told(String call, boolean got, boolean due) {"
            + " rows.add(new Object[]{call, got, due}); return got; }\n"
            + methods
            + "public static java.util.List<Object[]> run() {\n" + run + "return rows;\n}\n}\n";
    }

    /** The line as it stands, but for its call, whose answer is written down beside the one shown. */
    private static String asked(String line) {
        Matcher found = ANSWERED.matcher(line);
        if (!found.matches()) {
            return line;
        }
        String call = found.group(1);
        return line.substring(0, found.start(1)) + "told(\"" + call + "\", " + call + ", " + found.group(3) + ");";
    }

    @SuppressWarnings("unchecked")
    private static List<Object[]> rows(String source) throws Exception {
        Path dir = Files.createTempDirectory("readme");
        Path file = dir.resolve(SHOWN + ".java");
        Path made = dir.resolve(SHOWN + ".class");
        try {
            Files.writeString(file, source);
            JavaCompiler javac = ToolProvider.getSystemJavaCompiler();
            String path = System.getProperty("java.class.path");
            int failed = javac == null ? 1 : javac.run(null, null, null, "-cp", path, "-d", dir.toString(), file.toString());
            Check.due("README.md: what it shows compiles", failed, 0);
            if (failed != 0) {
                return List.of();
            }
            try (URLClassLoader loader = new URLClassLoader(new URL[]{dir.toUri().toURL()})) {
                return (List<Object[]>) loader.loadClass(SHOWN).getMethod("run").invoke(null);
            }
        } finally {
            Files.deleteIfExists(made);
            Files.deleteIfExists(file);
            Files.deleteIfExists(dir);
        }
    }

    private static long number(Object answer) {
        return answer instanceof Boolean ? ((Boolean) answer ? 1 : 0) : ((Integer) answer).longValue();
    }
}
