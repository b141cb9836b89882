import java.io.File;
import java.lang.invoke.MethodHandles;
import java.lang.reflect.Method;
import java.nio.file.Files;
import java.nio.file.Path;
import java.util.Arrays;
import java.util.TreeSet;
import java.util.regex.Matcher;
import java.util.regex.Pattern;
import java.util.stream.Collectors;
import javax.tools.ToolProvider;

/** What README.md says: its example answers what is written behind each call, and it names each call and each test. */
final class ReadmeTests {
    private static final Pattern ANSWERED = Pattern.compile(
            "(int \\w+ = )?(wright\\.\\w+\\([^;]*\\)); +// (true|false|-?\\d+)(?:: the pattern is (\"\\w+\"))?");

    public static void main(String[] args) throws Exception {
        String readme = Files.readString(Path.of("README.md"));
        example(readme.split("```java\n")[1].split("```")[0]);
        calls(readme);
        tests(readme);
        limits(readme.replaceAll("\\s+", " "));
        Due.end();
    }

    /** The example is compiled with its answers as tests, and is run. */
    private static void example(String example) throws Exception {
        Path room = Files.createTempDirectory("readme");
        Path source = room.resolve("ReadmeExample.java");
        Files.writeString(source, "final class ReadmeExample { static void run() { " + tested(example) + " } }");
        int code = ToolProvider.getSystemJavaCompiler().run(null, null, null, "-cp",
                System.getProperty("java.class.path") + File.pathSeparator + room, "-d", room.toString(), source.toString());
        Due.is("README: its example compiles", 0, code);
        byte[] compiled = Files.readAllBytes(room.resolve("ReadmeExample.class"));
        for (File file : room.toFile().listFiles()) {
            file.delete();
        }
        Files.delete(room);
        Method run = MethodHandles.lookup().defineClass(compiled).getDeclaredMethod("run");
        run.invoke(null);
    }

    private static String tested(String example) {
        StringBuilder tested = new StringBuilder();
        int calls = 0;
        for (String line : example.lines().toList()) {
            Matcher answered = ANSWERED.matcher(line);
            if (answered.find()) {
                calls++;
                String name = answered.group(1) == null ? "Object answer" + calls + " = " : answered.group(1);
                tested.append(name).append(answered.group(2)).append(";\nDue.is(\"README: ").append(answered.group(2))
                        .append("\", ").append(answered.group(3)).append(", ").append(name.split(" ")[1]).append(");\n");
                if (answered.group(4) != null) {
                    tested.append("Due.is(\"README: the pattern\", ").append(answered.group(4))
                            .append(", Letters.patternOf(wright));\n");
                }
            } else {
                tested.append(line).append('\n');
            }
        }
        Due.is("README: calls with an answer", example.lines().filter(line -> line.startsWith("wright.")).count() + 1, (long) calls);
        return tested.toString();
    }

    private static void calls(String readme) {
        TreeSet<String> calls = Arrays.stream(SuffixWright.class.getDeclaredMethods())
                .filter(each -> java.lang.reflect.Modifier.isPublic(each.getModifiers())).map(Method::getName)
                .collect(Collectors.toCollection(TreeSet::new));
        TreeSet<String> named = new TreeSet<>();
        for (String line : readme.lines().filter(each -> each.startsWith("| ")).toList()) {
            named.addAll(quoted("[a-zA-Z]+", line));
        }
        Due.is("README: its calls", calls, named);
    }

    private static void tests(String readme) {
        TreeSet<String> tests = Arrays.stream(new File("src/test/java").list())
                .map(name -> name.replace(".java", "")).collect(Collectors.toCollection(TreeSet::new));
        TreeSet<String> named = quoted("[A-Z]\\w+", readme.substring(readme.indexOf("## How to run its tests")));
        Due.is("README: its tests and what helps them", tests, named);
    }

    private static TreeSet<String> quoted(String word, String text) {
        TreeSet<String> quoted = new TreeSet<>();
        Matcher words = Pattern.compile("`(" + word + ")`").matcher(text);
        while (words.find()) {
            quoted.add(words.group(1));
        }
        return quoted;
    }

    private static void limits(String readme) {
        for (String limit : new String[] {"at most 4 texts with 100 letters together", "at most 120 letters in the pattern",
            "at most 512 calls", "`NONE`, which is " + SuffixWright.NONE + ","}) {
            Due.is("README: it says " + limit, true, readme.contains(limit));
        }
    }
}
