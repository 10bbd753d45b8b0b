import java.io.IOException;
import java.lang.reflect.Method;
import java.net.URL;
import java.net.URLClassLoader;
import java.nio.file.Files;
import java.nio.file.Path;
import java.util.ArrayList;
import java.util.List;
import java.util.TreeSet;
import java.util.regex.Matcher;
import java.util.regex.Pattern;
import java.util.stream.Stream;
import javax.tools.JavaCompiler;
import javax.tools.ToolProvider;

/**
 * What README.md says is so: its Java compiles, and each call with a number behind it answers that number; it names
 * every test there is, and none that isn't; it names every call of the class. Runs in the project's directory.
 */
public final class ReadmeTest {
    private static final Pattern BLOCK = Pattern.compile("```java\n(.*?)```", Pattern.DOTALL);
    private static final Pattern ANSWERED = Pattern.compile("(int \\w+ = )?(x\\..+?);\\s+// (-?\\d+)\\b.*");
    private static final int CALLS_MOST = 512;

    public static void main(String[] args) throws IOException, ReflectiveOperationException {
        String readme = Files.readString(Path.of("README.md"));
        tests(readme);
        names(readme);
        int blocks = 0;
        int answers = 0;
        Matcher matcher = BLOCK.matcher(readme);
        while (matcher.find()) {
            answers += run("ReadmeBlock" + blocks, matcher.group(1));
            blocks++;
        }
        Due.due("README has Java", blocks > 0 ? 1 : 0, 1);
        Due.due("README tells answers", answers > 0 ? 1 : 0, 1);
        Due.end();
    }

    /** Runs one block of Java, all of it, and compares each answer that it tells: how many. */
    private static int run(String name, String block) throws IOException, ReflectiveOperationException {
        List<String> calls = new ArrayList<>();
        List<Long> wants = new ArrayList<>();
        String source = source(name, block, calls, wants);
        Path directory = Files.createTempDirectory("readme");
        Path file = directory.resolve(name + ".java");
        Path compiled = directory.resolve(name + ".class");
        Files.writeString(file, source);
        try {
            JavaCompiler compiler = ToolProvider.getSystemJavaCompiler();
            String classes = System.getProperty("java.class.path");
            int failed = compiler.run(null, null, null, "-cp", classes, "-d", directory.toString(), file.toString());
            Due.due("javac of\n" + block, failed, 0);
            if (failed == 0) {
                compare(directory.toUri().toURL(), name, calls, wants);
            }
        } finally {
            Files.deleteIfExists(file);
            Files.deleteIfExists(compiled);
            Files.deleteIfExists(directory);
        }
        return wants.size();
    }

    private static void compare(URL place, String name, List<String> calls, List<Long> wants)
            throws IOException, ReflectiveOperationException {
        long[] got;
        try (URLClassLoader loader = new URLClassLoader(new URL[] {place}, ReadmeTest.class.getClassLoader())) {
            got = (long[]) loader.loadClass(name).getMethod("answers").invoke(null);
        }
        for (int i = 0; i < got.length; i++) {
            Due.due(name + ": " + calls.get(i), got[i], wants.get(i));
        }
    }

    /** A class that holds the block's lines and gives the answers of those that tell one. */
    private static String source(String name, String block, List<String> calls, List<Long> wants) {
        StringBuilder lines = new StringBuilder();
        for (String line : block.split("\n")) {
            Matcher answered = ANSWERED.matcher(line.strip());
            if (!answered.matches()) {
                lines.append(line).append('\n');
                continue;
            }
            String kept = "answer" + calls.size();
            lines.append("long ").append(kept).append(" = ").append(answered.group(2)).append(";\n");
            lines.append("got[").append(calls.size()).append("] = ").append(kept).append(";\n");
            if (answered.group(1) != null) {
                lines.append(answered.group(1)).append("(int) ").append(kept).append(";\n");
            }
            calls.add(answered.group(2));
            wants.add(Long.parseLong(answered.group(3)));
        }
        return "public final class " + name + " {\npublic static long[] answers() {\nlong[] got = new long[" + calls.size()
                + "];\n" + lines + "return got;\n}\n}\n";
    }

    private static void tests(String readme) throws IOException {
        TreeSet<String> there = new TreeSet<>();
        try (Stream<Path> files = Files.list(Path.of("src/test/java"))) {
            files.map(file -> file.getFileName().toString()).filter(file -> file.endsWith("Test.java"))
                    .forEach(file -> there.add(file.substring(0, file.length() - ".java".length())));
        }
        TreeSet<String> told = new TreeSet<>();
        Matcher matcher = Pattern.compile("`(\\w+Test)`").matcher(readme);
        while (matcher.find()) {
            told.add(matcher.group(1));
        }
        Due.same("the tests that README tells of", told.toString(), there.toString());
    }

    private static void names(String readme) {
        for (Method method : PointAtWhoIsLost.class.getDeclaredMethods()) {
            if (java.lang.reflect.Modifier.isPublic(method.getModifiers())) {
                boolean isTold = readme.contains("`" + method.getName() + "`") || readme.contains("`" + method.getName() + "(");
                Due.due("README names " + method.getName(), isTold ? 1 : 0, 1);
            }
        }
        Due.due("README tells of the limit", readme.contains(String.valueOf(CALLS_MOST)) ? 1 : 0, 1);
    }
}
