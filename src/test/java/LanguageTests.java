import java.lang.reflect.Field;
import java.lang.reflect.Method;
import java.lang.reflect.Modifier;
import java.nio.file.Files;
import java.nio.file.Path;
import java.util.ArrayList;
import java.util.Arrays;
import java.util.List;
import java.util.Map;
import java.util.TreeMap;
import java.util.regex.Matcher;
import java.util.regex.Pattern;

/**
 * The rules of LANGUAGE.md, as far as a look at the source and at the compiled classes can tell.
 * What the program does without is not allowed here, even where a rule allows it.
 */
final class LanguageTests {
    private static final List<String> WITHOUT = List.of("package", "import", "try", "catch", "finally", "synchronized",
            "assert", "System", "Thread", "Object", "double", "float", "\\w*Exact", "instanceof", "static \\{", "->", "::",
            "@", "while \\(true\\)", "for \\(;", ";; ?\\w*\\)", "\"\" \\+", "\\+ \"\"", "equals", "hashCode", "toString",
            "extends", "implements", "goto", "native", "transient", "volatile", "yield", "var");
    private static final List<String> MADE = List.of("Word", "Ends", "Automaton", "Guide", "int");

    public static void main(String[] args) throws Exception {
        String source = Files.readString(Path.of("src/main/java/SuffixWright.java"));
        signs(source);
        String code = source.replaceAll("(?s)/\\*.*?\\*/", "").replaceAll("//[^\n]*", "").replaceAll("\"[^\"]*\"", "\"\"");
        words(code);
        exceptions(source, code);
        methods(code);
        classes();
        Due.end();
    }

    /** Rule 4: signs are 1 to 127. */
    private static void signs(String source) {
        Due.is("rule 4: other signs", 0L, source.chars().filter(sign -> sign < 1 || sign > 127).count());
    }

    private static void words(String code) {
        for (String word : WITHOUT) {
            Due.is("the source has " + word, false,
                    Pattern.compile("(?<![A-Za-z])" + word + "(?![A-Za-z])").matcher(code).find());
        }
        for (String made : all("(?<!throw )new (\\w+)", code)) {
            Due.is("rule 4: new " + made, true, MADE.contains(made));
        }
        for (String asked : all("\\b([A-Z]\\w*\\.\\w+)\\(", code)) {
            Due.is("rule 4: " + asked, true, List.of("Math.max", "Math.min").contains(asked));
        }
    }

    /** Rule 6: each exception is made where it is thrown, with a written text, and never in a constructor. */
    private static void exceptions(String source, String code) {
        List<String> thrown = all("\\bthrow (.*)", source);
        Due.is("rule 6: exceptions are thrown", true, thrown.size() > 5);
        for (String each : thrown) {
            Due.is("rule 6: throw " + each, true, each.matches("new Illegal(State|Argument)Exception\\(\"[^\"]+\"\\);"
                    + "|new IndexOutOfBoundsException\\(\"[^\"]+\"\\);"));
        }
        bodies(code).forEach((name, body) -> Due.is("rule 6: the constructor " + name + " throws", false,
                Character.isUpperCase(name.charAt(0)) && body.contains("throw")));
    }

    /** Rules 8 and 11: short methods, no recursion, and no call that is more than eight deep. */
    private static void methods(String code) {
        Map<String, String> bodies = bodies(code);
        Due.is("methods are found", true, bodies.size() > 60);
        bodies.forEach((name, body) -> {
            Due.is("rule 11: " + name + " has sixty lines at most", true, body.lines().count() <= 60);
            int deep = depthOf(name, bodies, 1);
            Due.is("rule 11: " + name + " goes " + deep + " deep, eight at most", true, deep <= 8);
        });
    }

    /** The bodies of all methods and constructors by name; methods of one name stand together. */
    private static Map<String, String> bodies(String code) {
        Map<String, String> bodies = new TreeMap<>();
        Matcher heads = Pattern.compile("(?m)^ +(?:[a-z]+ )*(?:[\\w\\[\\]]+ )?(\\w+)\\([^()]*\\)[^;{()]*\\{").matcher(code);
        while (heads.find()) {
            int open = 1;
            int end = heads.end();
            while (open > 0) {
                open += code.charAt(end) == '{' ? 1 : code.charAt(end) == '}' ? -1 : 0;
                end++;
            }
            bodies.merge(heads.group(1), code.substring(heads.end(), end), String::concat);
        }
        return bodies;
    }

    /** How many calls stand open at most when one is made, itself among them; more than forty of a recursion. */
    private static int depthOf(String name, Map<String, String> bodies, int above) {
        int deepest = 0;
        for (String called : all("(\\w+)\\(", bodies.get(name))) {
            if (bodies.containsKey(called) && above <= 40) {
                deepest = Math.max(deepest, depthOf(called, bodies, above + 1));
            }
        }
        return deepest + 1;
    }

    private static List<String> all(String pattern, String code) {
        List<String> all = new ArrayList<>();
        Matcher found = Pattern.compile(pattern).matcher(code);
        while (found.find()) {
            all.add(found.group(1));
        }
        return all;
    }

    /** Rules 1, 3, 5 and 11. */
    private static void classes() {
        List<String> names = Arrays.stream(SuffixWright.class.getDeclaredMethods())
                .filter(each -> Modifier.isPublic(each.getModifiers())).map(Method::getName).toList();
        List<Class<?>> all = new ArrayList<>(List.of(SuffixWright.class.getDeclaredClasses()));
        for (Class<?> inner : all) {
            Due.is("rule 1: " + inner + " is private, static and final", "private static final", Modifier.toString(inner.getModifiers()));
        }
        all.add(SuffixWright.class);
        Due.is("rule 11: some twelve classes at most", true, all.size() <= 12);
        for (Class<?> each : all) {
            for (Method method : each.getDeclaredMethods()) {
                Due.is("rule 1: " + method + " has a name of its own", false,
                        !Modifier.isPublic(method.getModifiers()) && names.contains(method.getName()));
                Due.is("rule 11: " + method + " has seven parameters at most", true, method.getParameterCount() <= 7);
            }
            fields(each);
        }
    }

    private static void fields(Class<?> type) {
        int own = 0;
        for (Field field : type.getDeclaredFields()) {
            boolean constant = Modifier.isStatic(field.getModifiers());
            Due.is("rule 5: " + field + " is final and a number", true,
                    !constant || Modifier.isFinal(field.getModifiers()) && field.getType() == int.class);
            Class<?> kind = field.getType().isArray() ? field.getType().getComponentType() : field.getType();
            Due.is("rule 3: " + field, true, kind == int.class || kind.getNestHost() == SuffixWright.class);
            own += constant ? 0 : 1;
        }
        Due.is("rule 11: some twenty fields of " + type, true, own <= 20);
    }
}
