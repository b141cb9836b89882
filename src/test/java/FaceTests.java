import java.lang.reflect.Constructor;
import java.lang.reflect.Field;
import java.lang.reflect.Method;
import java.lang.reflect.Modifier;
import java.nio.file.Files;
import java.nio.file.Path;
import java.util.ArrayList;
import java.util.Arrays;
import java.util.List;
import java.util.TreeSet;
import java.util.regex.Matcher;
import java.util.regex.Pattern;
import java.util.stream.Collectors;

/** The public face, to the letter of the document: as it is written in the source, and as it is compiled. */
final class FaceTests {
    private static final String FACE = """
            public final class SuffixWright
            public static final int NONE = -1
            public SuffixWright()
            ---- texts
            public void clear()
            public int open() throws IllegalStateException
            public int append(int text, int letter) throws IndexOutOfBoundsException, IllegalArgumentException, IllegalStateException
            public int texts()
            public int length(int text) throws IndexOutOfBoundsException
            public int letterAt(int text, int number) throws IndexOutOfBoundsException
            ---- the pattern
            public int type(int letter) throws IllegalArgumentException, IllegalStateException
            public int erase() throws IllegalStateException
            public int wipe()
            public void copy(int text, int from, int many) throws IndexOutOfBoundsException, IllegalArgumentException
            public int patternLength()
            public int patternAt(int number) throws IndexOutOfBoundsException
            ---- the places of the pattern
            public boolean isPart()
            public int occurrences()
            public int occurrencesIn(int text) throws IndexOutOfBoundsException
            public int first(int text) throws IndexOutOfBoundsException
            public int last(int text) throws IndexOutOfBoundsException
            public int followers()
            public int leaders()
            ---- classes
            public int classes()
            public int longestAlike()
            public int shortestAlike()
            ---- the order of parts
            public int parts()
            public int rank()
            public int toPart(int number) throws IndexOutOfBoundsException
            ---- what is found becomes the pattern
            public int common(int set) throws IllegalArgumentException
            public int repeated(int occurrences) throws IllegalArgumentException
            public int missing(int letters) throws IllegalArgumentException
            """;

    public static void main(String[] args) throws Exception {
        Due.is("the face in the source", FACE.lines().toList(),
                faceIn(Files.readString(Path.of("src/main/java/SuffixWright.java"))));
        Due.is("the face as it is compiled", compiledFace(), faceOf(SuffixWright.class));
        Due.is("NONE", -1, SuffixWright.NONE);
        aboveIsObjectAlone();
        Due.end();
    }

    /** What is public in a source, and the lines that part it, up to those on what is inside. */
    private static List<String> faceIn(String source) {
        List<String> face = new ArrayList<>();
        Matcher lines = Pattern.compile("// (---- .*)|(?m)^ *(public [^{;]*)").matcher(source);
        while (lines.find()) {
            String line = lines.group(1) != null ? lines.group(1) : lines.group(2).replaceAll("\\s+", " ").trim();
            if (!line.equals("---- inside")) {
                face.add(line);
            }
        }
        return face;
    }

    /** The compiler keeps no names of parameters, and no lines that part the calls. */
    private static TreeSet<String> compiledFace() {
        return FACE.lines().filter(line -> !line.startsWith("----"))
                .map(line -> line.replaceAll("int [a-z]+(?=[,)])", "int").replace(" = -1", ""))
                .collect(Collectors.toCollection(TreeSet::new));
    }

    private static TreeSet<String> faceOf(Class<?> type) {
        TreeSet<String> face = new TreeSet<>();
        face.add(Modifier.toString(type.getModifiers()) + " class " + type.getName());
        for (Field each : type.getDeclaredFields()) {
            if (!Modifier.isPrivate(each.getModifiers())) {
                face.add(Modifier.toString(each.getModifiers()) + " " + each.getType().getSimpleName() + " " + each.getName());
            }
        }
        for (Constructor<?> each : type.getDeclaredConstructors()) {
            face.add(Modifier.toString(each.getModifiers()) + " " + type.getSimpleName() + listed(each.getParameterTypes())
                    + thrown(each.getExceptionTypes()));
        }
        for (Method each : type.getDeclaredMethods()) {
            if (!Modifier.isPrivate(each.getModifiers())) {
                face.add(Modifier.toString(each.getModifiers()) + " " + each.getReturnType().getSimpleName() + " "
                        + each.getName() + listed(each.getParameterTypes()) + thrown(each.getExceptionTypes()));
            }
        }
        return face;
    }

    private static String listed(Class<?>[] types) {
        return Arrays.stream(types).map(Class::getSimpleName).collect(Collectors.joining(", ", "(", ")"));
    }

    private static String thrown(Class<?>[] types) {
        return types.length == 0 ? ""
                : Arrays.stream(types).map(Class::getSimpleName).collect(Collectors.joining(", ", " throws ", ""));
    }

    private static void aboveIsObjectAlone() {
        Due.is("above the class", Object.class, SuffixWright.class.getSuperclass());
        Due.is("interfaces", 0, SuffixWright.class.getInterfaces().length);
        Due.is("the package", "", SuffixWright.class.getPackageName());
    }
}
