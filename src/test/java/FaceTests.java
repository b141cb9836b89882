import java.lang.reflect.Constructor;
import java.lang.reflect.Field;
import java.lang.reflect.Method;
import java.lang.reflect.Modifier;
import java.nio.file.Files;
import java.nio.file.Path;
import java.util.ArrayList;
import java.util.Arrays;
import java.util.List;
import java.util.TreeSet;
import java.util.regex.Matcher;
import java.util.regex.Pattern;
import java.util.stream.Collectors;

/** The public face, to the letter of the document, and what of LANGUAGE.md a look at the source can tell. */
final class FaceTests {
    private static final String FACE = """
            public static final int NONE;
            public SuffixWright();
            public void clear();
            public int open() throws IllegalStateException;
            public int append(int, int) throws IndexOutOfBoundsException, IllegalArgumentException, IllegalStateException;
            public int texts();
            public int length(int) throws IndexOutOfBoundsException;
            public int letterAt(int, int) throws IndexOutOfBoundsException;
            public int type(int) throws IllegalArgumentException, IllegalStateException;
            public int erase() throws IllegalStateException;
            public int wipe();
            public void copy(int, int, int) throws IndexOutOfBoundsException, IllegalArgumentException;
            public int patternLength();
            public int patternAt(int) throws IndexOutOfBoundsException;
            public boolean isPart();
            public int occurrences();
            public int occurrencesIn(int) throws IndexOutOfBoundsException;
            public int first(int) throws IndexOutOfBoundsException;
            public int last(int) throws IndexOutOfBoundsException;
            public int followers();
            public int leaders();
            public int classes();
            public int longestAlike();
            public int shortestAlike();
            public int parts();
            public int rank();
            public int toPart(int) throws IndexOutOfBoundsException;
            public int common(int) throws IllegalArgumentException;
            public int repeated(int) throws IllegalArgumentException;
            public int missing(int) throws IllegalArgumentException;
            """;

    public static void main(String[] args) throws Exception {
        Due.is("the class", "public final", Modifier.toString(SuffixWright.class.getModifiers()));
        Due.is("NONE", -1, SuffixWright.NONE);
        Due.is("the face", new TreeSet<>(FACE.lines().toList()), new TreeSet<>(faceOf(SuffixWright.class)));
        innerClasses();
        source(Files.readString(Path.of("src/main/java/SuffixWright.java")));
        Due.end();
    }

    private static List<String> faceOf(Class<?> type) {
        List<String> face = new ArrayList<>();
        for (Field field : type.getDeclaredFields()) {
            if (!Modifier.isPrivate(field.getModifiers())) {
                face.add(Modifier.toString(field.getModifiers()) + " " + field.getType().getSimpleName() + " "
                        + field.getName() + ";");
            }
            Due.is("static " + field + " is final", true,
                    !Modifier.isStatic(field.getModifiers()) || Modifier.isFinal(field.getModifiers()));
        }
        for (Constructor<?> each : type.getDeclaredConstructors()) {
            face.add(Modifier.toString(each.getModifiers()) + " " + type.getSimpleName() + listed(each.getParameterTypes())
                    + thrown(each.getExceptionTypes()) + ";");
        }
        for (Method each : type.getDeclaredMethods()) {
            if (!Modifier.isPrivate(each.getModifiers())) {
                face.add(Modifier.toString(each.getModifiers()) + " " + each.getReturnType().getSimpleName() + " "
                        + each.getName() + listed(each.getParameterTypes()) + thrown(each.getExceptionTypes()) + ";");
            }
        }
        return face;
    }

    private static String listed(Class<?>[] types) {
        return Arrays.stream(types).map(Class::getSimpleName).collect(Collectors.joining(", ", "(", ")"));
    }

    private static String thrown(Class<?>[] types) {
        return types.length == 0 ? ""
                : Arrays.stream(types).map(Class::getSimpleName).collect(Collectors.joining(", ", " throws ", ""));
    }

    private static void innerClasses() {
        List<String> names = Arrays.stream(SuffixWright.class.getDeclaredMethods())
                .filter(each -> Modifier.isPublic(each.getModifiers())).map(Method::getName).toList();
        List<Class<?>> all = new ArrayList<>(List.of(SuffixWright.class.getDeclaredClasses()));
        for (Class<?> inner : all) {
            Due.is(inner + " is private and static", true,
                    Modifier.isPrivate(inner.getModifiers()) && Modifier.isStatic(inner.getModifiers()));
        }
        all.add(SuffixWright.class);
        Due.is("some twelve classes at most", true, all.size() <= 12);
        for (Class<?> each : all) {
            for (Method method : each.getDeclaredMethods()) {
                Due.is(method + " has a name of its own", false,
                        !Modifier.isPublic(method.getModifiers()) && names.contains(method.getName()));
                Due.is(method + " has seven parameters at most", true, method.getParameterCount() <= 7);
            }
            long own = Arrays.stream(each.getDeclaredFields()).filter(f -> !Modifier.isStatic(f.getModifiers())).count();
            Due.is("some twenty fields of " + each, true, own <= 20);
        }
    }

    private static void source(String source) {
        String code = source.replaceAll("(?s)/\\*.*?\\*/", "").replaceAll("//[^\n]*", "").replaceAll("\"[^\"]*\"", "\"\"");
        for (String word : new String[] {"package", "import", "try", "catch", "finally", "synchronized", "assert",
            "System", "Thread", "Object", "double", "float", "Exact", "instanceof", "static \\{", "->", "::", "@"}) {
            Due.is("the source has " + word, false, Pattern.compile("(?<![A-Za-z])" + word + "(?![A-Za-z])").matcher(code).find());
        }
        Matcher made = Pattern.compile("new ([A-Za-z]+)").matcher(code);
        while (made.find()) {
            Due.is("new " + made.group(1), true, List.of("Word", "Ends", "Automaton", "Guide", "int",
                    "IllegalStateException", "IllegalArgumentException", "IndexOutOfBoundsException").contains(made.group(1)));
        }
    }
}
