import java.lang.management.ManagementFactory;
import java.lang.reflect.Array;
import java.lang.reflect.Field;
import java.lang.reflect.Modifier;
import java.util.ArrayList;
import java.util.Collections;
import java.util.IdentityHashMap;
import java.util.List;
import java.util.Set;

/** The room that all calls of one run share: an object is small, and its calls make nothing. */
final class RoomTests {
    private static final int CALLS = 512;

    public static void main(String[] args) throws Exception {
        anObjectIsSmall();
        Due.is("the sum of the first run", callEach(new SuffixWright()), callEach(new SuffixWright()));
        callsMakeNothing();
        Due.end();
    }

    /** So small that a run whose every call is a new object stays within the room. */
    private static void anObjectIsSmall() throws IllegalAccessException {
        Set<Object> seen = Collections.newSetFromMap(new IdentityHashMap<>());
        long elements = elementsOf(new SuffixWright(), seen);
        Due.is("objects: " + seen.size(), true, seen.size() * CALLS < 600_000);
        Due.is("elements: " + elements, true, elements * CALLS < 7_300_000);
    }

    private static long elementsOf(Object object, Set<Object> seen) throws IllegalAccessException {
        if (object == null || !seen.add(object)) {
            return 0;
        }
        if (object.getClass().isArray()) {
            long elements = Array.getLength(object);
            for (int at = 0; object instanceof Object[] && at < Array.getLength(object); at++) {
                elements += elementsOf(Array.get(object, at), seen);
            }
            return elements;
        }
        List<Field> fields = new ArrayList<>();
        for (Field field : object.getClass().getDeclaredFields()) {
            if (!Modifier.isStatic(field.getModifiers())) {
                fields.add(field);
            }
        }
        long elements = fields.size();
        for (Field field : fields) {
            field.setAccessible(true);
            if (!field.getType().isPrimitive()) {
                elements += elementsOf(field.get(object), seen);
            }
        }
        return elements;
    }

    private static void callsMakeNothing() {
        com.sun.management.ThreadMXBean bean = (com.sun.management.ThreadMXBean) ManagementFactory.getThreadMXBean();
        SuffixWright object = new SuffixWright();
        bean.getCurrentThreadAllocatedBytes();
        long before = bean.getCurrentThreadAllocatedBytes();
        callEach(object);
        long made = bean.getCurrentThreadAllocatedBytes() - before;
        Due.is("bytes that the calls of a run make: " + made, true, made < 1000);
    }

    /** Some 450 calls, each of the face among them, none of which throws; the sum of their answers. */
    private static long callEach(SuffixWright object) {
        long sum = 0;
        for (int text = 0; text < 4; text++) {
            sum += object.open();
        }
        for (int many = 0; many < 100; many++) {
            sum += object.append(many % 4, many * many % 7 % 3);
        }
        for (int turn = 0; turn < 12; turn++) {
            object.copy(turn % 4, turn, 3);
            sum += object.type(turn % 3) + object.erase() + object.patternAt(2) + object.patternLength();
            sum += (object.isPart() ? 1 : 0) + object.occurrences() + object.occurrencesIn(turn % 4);
            sum += object.first(turn % 4) + object.last(turn % 4) + object.followers() + object.leaders();
            sum += object.classes() + object.longestAlike() + object.shortestAlike() + object.parts() + object.rank();
            sum += object.toPart(turn * 3) + object.common(3) + object.repeated(turn + 1) + object.missing(turn + 1);
            sum += object.texts() + object.length(turn % 4) + object.letterAt(turn % 4, turn) + object.wipe();
        }
        object.clear();
        return sum;
    }
}
