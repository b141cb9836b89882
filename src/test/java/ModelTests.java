import java.util.Arrays;

/** Long runs of calls, each answer held against the one of the plain model. */
final class ModelTests {
    private static final int[] EXTREMES = {Integer.MIN_VALUE, Integer.MIN_VALUE + 1, -101, -27, -2, -1, 0, 1, 2, 3, 4, 5,
        15, 16, 25, 26, 27, 99, 100, 101, 119, 120, 121, 5050, 1 << 26, Integer.MAX_VALUE - 1, Integer.MAX_VALUE};
    private static final String[] PLAIN = {"texts", "patternLength", "isPart", "occurrences", "followers", "leaders",
        "classes", "longestAlike", "shortestAlike", "parts", "rank"};
    private static final String[] OF_ONE = {"length", "type", "patternAt", "occurrencesIn", "first", "last", "toPart",
        "common", "repeated", "missing"};
    private static final String[] STEPS = {"erase", "wipe", "open"};

    // A fixed row of numbers: the same runs each time.
    private static long seed = 1;

    private static SuffixWright object;
    private static PlainModel model;
    private static String run;

    public static void main(String[] args) {
        for (int turn = 0; turn < 240; turn++) {
            seed = 1000 + turn;
            run = "run " + turn;
            object = new SuffixWright();
            model = new PlainModel();
            runOf(1 + turn % 4, 1 + turn % 3 + (turn % 10 == 0 ? 23 : 0), turn % 7 == 0);
        }
        fullOfOneLetter();
        eachWordOfALongText();
        thousandsOfClears();
        Due.end();
    }

    /** A run of some 500 calls with texts, letters of an alphabet, and sometimes wild arguments. */
    private static void runOf(int texts, int alphabet, boolean wild) {
        for (int text = 0; text < texts; text++) {
            hold("open");
        }
        int calls = texts;
        while (calls < 500) {
            int kind = next(20);
            if (kind < 8) {
                hold("append", next(texts), next(alphabet));
            } else if (kind < 10) {
                copyFrom(next(texts));
            } else if (kind < 12) {
                hold("type", next(alphabet));
            } else if (kind == 12) {
                hold(STEPS[next(2)]);
            } else if (kind == 13) {
                hold(OF_ONE[6 + next(4)], wild ? EXTREMES[next(EXTREMES.length)] : next(26));
            } else if (kind == 14) {
                hold("toPart", next(Math.max(1, (int) model.answer("parts"))));
            } else if (kind == 15 && wild) {
                wildCall();
            } else if (kind == 16 && next(60) == 0) {
                hold("clear");
                hold("open");
            } else {
                askAll();
                calls += PLAIN.length;
            }
            calls++;
        }
        askAll();
    }

    private static void copyFrom(int text) {
        Object length = model.answer("length", text);
        int letters = length instanceof Integer ? (Integer) length : 0;
        int from = next(letters + 1);
        hold("copy", text, from, next(letters - from + 1));
    }

    private static void wildCall() {
        int a = EXTREMES[next(EXTREMES.length)];
        int b = EXTREMES[next(EXTREMES.length)];
        int c = EXTREMES[next(EXTREMES.length)];
        switch (next(6)) {
            case 0: hold("append", a, b); break;
            case 1: hold("letterAt", a, b); break;
            case 2: hold("copy", next(2) == 0 ? a : 0, b, c); break;
            case 3: hold(STEPS[next(3)]); break;
            default: hold(OF_ONE[next(OF_ONE.length)], a); break;
        }
        holdPattern();
    }

    private static void askAll() {
        for (String call : PLAIN) {
            hold(call);
        }
        int text = next(4);
        for (String call : new String[] {"length", "occurrencesIn", "first", "last"}) {
            hold(call, text);
        }
        holdPattern();
    }

    private static void holdPattern() {
        Due.is(run + ": the pattern", model.pattern, patternOf(object));
    }

    private static void fullOfOneLetter() {
        run = "one letter";
        object = new SuffixWright();
        model = new PlainModel();
        hold("open");
        for (int many = 0; many < 101; many++) {
            hold("append", 0, 0);
        }
        for (int letters = 0; letters < 28; letters++) {
            hold("missing", letters);
            askAll();
        }
        for (int number = 90; number < 101; number++) {
            hold("toPart", number);
            askAll();
        }
    }

    /** Each part of four texts is reached by its number, and has that rank. */
    private static void eachWordOfALongText() {
        run = "each part";
        object = new SuffixWright();
        model = new PlainModel();
        seed = 77;
        for (int text = 0; text < 4; text++) {
            hold("open");
        }
        for (int many = 0; many < 100; many++) {
            hold("append", next(4), next(2));
        }
        int parts = (int) model.answer("parts");
        for (int number = 0; number < parts; number++) {
            hold("toPart", number);
            Due.is(run + ": rank of " + number, number, object.rank());
            holdPattern();
            if (number % 25 == 0) {
                askAll();
                hold("followers");
                hold("leaders");
            }
        }
        hold("toPart", parts);
    }

    private static void thousandsOfClears() {
        run = "clears";
        object = new SuffixWright();
        model = new PlainModel();
        for (int turn = 0; turn < 30; turn++) {
            hold("open");
            hold("append", 0, turn % 26);
            hold("append", 0, turn % 26);
            hold("append", 0, 25 - turn % 26);
            hold("type", turn % 26);
            askAll();
            hold("clear");
            askAll();
        }
    }

    private static void hold(String call, int... a) {
        Object due = model.answer(call, a);
        Due.is(run + ": " + call + Arrays.toString(a) + " on " + model.texts + " with " + model.pattern,
                due, Due.answerOf(() -> call(call, a)));
    }

    private static Object call(String call, int... a) {
        switch (call) {
            case "clear": object.clear(); return null;
            case "open": return object.open();
            case "append": return object.append(a[0], a[1]);
            case "texts": return object.texts();
            case "length": return object.length(a[0]);
            case "letterAt": return object.letterAt(a[0], a[1]);
            case "type": return object.type(a[0]);
            case "erase": return object.erase();
            case "wipe": return object.wipe();
            case "copy": object.copy(a[0], a[1], a[2]); return null;
            case "patternLength": return object.patternLength();
            case "patternAt": return object.patternAt(a[0]);
            case "isPart": return object.isPart();
            case "occurrences": return object.occurrences();
            case "occurrencesIn": return object.occurrencesIn(a[0]);
            case "first": return object.first(a[0]);
            case "last": return object.last(a[0]);
            case "followers": return object.followers();
            case "leaders": return object.leaders();
            case "classes": return object.classes();
            case "longestAlike": return object.longestAlike();
            case "shortestAlike": return object.shortestAlike();
            case "parts": return object.parts();
            case "rank": return object.rank();
            case "toPart": return object.toPart(a[0]);
            case "common": return object.common(a[0]);
            case "repeated": return object.repeated(a[0]);
            case "missing": return object.missing(a[0]);
            default: throw new IllegalArgumentException(call);
        }
    }

    static String patternOf(SuffixWright object) {
        StringBuilder pattern = new StringBuilder();
        for (int number = 0; number < object.patternLength(); number++) {
            pattern.append((char) ('a' + object.patternAt(number)));
        }
        return pattern.toString();
    }

    private static int next(int bound) {
        seed = seed * 6364136223846793005L + 1442695040888963407L;
        return (int) ((seed >>> 33) % bound);
    }
}
