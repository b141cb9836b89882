import java.util.Arrays;

/** Long runs of calls, each answer held against the one of the plain model. */
final class ModelTests {
    private static final int[] EXTREMES = {Integer.MIN_VALUE, Integer.MIN_VALUE + 1, -101, -27, -2, -1, 0, 1, 2, 3, 4, 5,
        15, 16, 25, 26, 27, 99, 100, 101, 119, 120, 121, 5050, 1 << 26, Integer.MAX_VALUE - 1, Integer.MAX_VALUE};
    private static final String[] OF_ONE = {"length", "type", "patternAt", "occurrencesIn", "first", "last", "toPart",
        "common", "repeated", "missing"};
    private static final String[] STEPS = {"erase", "wipe", "open"};

    // Nothing is promised about an object after its call 512.
    private static final int MOST_CALLS = 512;

    // A fixed row of numbers: the same runs each time.
    private static long seed = 1;

    private static SuffixWright object;
    private static PlainModel model;
    private static String run;
    private static int calls;

    public static void main(String[] args) {
        for (int turn = 0; turn < 400; turn++) {
            runOfTurn(turn);
        }
        fullOfOneLetter();
        eachWordOfALongText();
        clearsAgainAndAgain();
        Due.end();
    }

    private static void begin(String name) {
        run = name;
        object = new SuffixWright();
        model = new PlainModel();
        calls = 0;
    }

    private static void runOfTurn(int turn) {
        begin("run " + turn);
        seed = 1000 + turn;
        int texts = 1 + turn % 4;
        int alphabet = 1 + turn % 3 + (turn % 10 == 0 ? 23 : 0);
        for (int text = 0; text < texts; text++) {
            hold("open");
        }
        // Of some runs the texts have many letters from the beginning.
        for (int many = 0; many < turn % 5 * 24; many++) {
            hold("append", next(texts), next(alphabet));
        }
        runOf(texts, alphabet, turn % 7 == 0);
    }

    /** A run up to the call 512 with texts, letters of an alphabet, and sometimes wild arguments. */
    private static void runOf(int texts, int alphabet, boolean wild) {
        while (calls < MOST_CALLS) {
            int kind = next(20);
            if (kind < 8) {
                hold("append", next(texts), next(alphabet));
            } else if (kind < 10) {
                copyFrom(next(texts));
            } else if (kind < 12) {
                hold("type", next(alphabet));
            } else if (kind == 12) {
                hold(STEPS[next(2)]);
            } else if (kind == 13) {
                hold(OF_ONE[6 + next(4)], wild ? EXTREMES[next(EXTREMES.length)] : next(26));
            } else if (kind == 14) {
                hold("toPart", next(Math.max(1, (int) model.answer("parts"))));
            } else if (kind == 15 && wild) {
                wildCall();
            } else if (kind == 16 && next(60) == 0) {
                hold("clear");
                hold("open");
            } else {
                askAll();
            }
        }
    }

    private static void copyFrom(int text) {
        Object length = model.answer("length", text);
        int letters = length instanceof Integer ? (Integer) length : 0;
        int from = next(letters + 1);
        hold("copy", text, from, next(letters - from + 1));
    }

    private static void wildCall() {
        int a = EXTREMES[next(EXTREMES.length)];
        int b = EXTREMES[next(EXTREMES.length)];
        int c = EXTREMES[next(EXTREMES.length)];
        switch (next(6)) {
            case 0: hold("append", a, b); break;
            case 1: hold("letterAt", a, b); break;
            case 2: hold("copy", next(2) == 0 ? a : 0, b, c); break;
            case 3: hold(STEPS[next(3)]); break;
            default: hold(OF_ONE[next(OF_ONE.length)], a); break;
        }
        holdPattern();
    }

    private static void askAll() {
        for (String call : Calls.PLAIN) {
            hold(call);
        }
        int text = next(4);
        for (String call : new String[] {"length", "occurrencesIn", "first", "last"}) {
            hold(call, text);
        }
        holdPattern();
    }

    /** All letters of a short pattern, and some of a long one. */
    private static void holdPattern() {
        int length = model.pattern.length();
        hold("patternLength");
        for (int number = 0; number < length && number < 8; number++) {
            hold("patternAt", length <= 8 ? number : next(length));
        }
        hold("patternAt", length);
    }

    private static void fullOfOneLetter() {
        for (int letters = 0; letters < 28; letters++) {
            beginFull("one letter", 1);
            hold("append", 0, 0);
            hold("missing", letters);
            askAll();
            hold("toPart", 73 + letters);
            askAll();
        }
    }

    /** Each part of four texts is reached by its number, and has that rank. */
    private static void eachWordOfALongText() {
        beginFull("each part", 2);
        int parts = (int) model.answer("parts");
        for (int number = 0; number < parts; number++) {
            if (calls > MOST_CALLS - 40) {
                beginFull("each part", 2);
            }
            hold("toPart", number);
            hold("rank");
            holdPattern();
            if (number % 7 == 0) {
                askAll();
            }
        }
        beginFull("each part", 2);
        hold("toPart", parts);
        holdPattern();
    }

    /** Texts with a hundred letters, the same ones each time. */
    private static void beginFull(String name, int alphabet) {
        begin(name);
        seed = 77;
        int texts = alphabet == 1 ? 1 : 4;
        for (int text = 0; text < texts; text++) {
            hold("open");
        }
        for (int many = 0; many < 100; many++) {
            hold("append", next(texts), next(alphabet));
        }
    }

    private static void clearsAgainAndAgain() {
        begin("clears");
        for (int turn = 0; turn < 8; turn++) {
            hold("open");
            hold("append", 0, turn % 26);
            hold("append", 0, turn % 26);
            hold("append", 0, 25 - turn % 26);
            hold("type", turn % 26);
            askAll();
            hold("clear");
            askAll();
        }
    }

    private static void hold(String call, int... a) {
        if (calls == MOST_CALLS) {
            return;
        }
        calls++;
        Object due = model.answer(call, a);
        Due.is(run + ": " + call + Arrays.toString(a) + " on " + model.texts + " with " + model.pattern,
                due, Due.answerOf(() -> Calls.on(object, call, a)));
    }

    private static int next(int bound) {
        seed = seed * 6364136223846793005L + 1442695040888963407L;
        return (int) ((seed >>> 33) % bound);
    }
}
