import java.util.Arrays;
import java.util.stream.IntStream;

/** All small texts, grown letter by letter in every order of texts, held against the plain model. */
final class SmallTests {
    private static final String[] OF_A_TEXT = {"length", "occurrencesIn", "first", "last"};

    private static int texts;
    private static int letters;
    private static PlainModel model;

    public static void main(String[] args) {
        all(1, 2, 8);
        all(1, 3, 5);
        all(2, 2, 5);
        all(3, 2, 4);
        all(4, 1, 5);
        Due.end();
    }

    /** So many texts, of so many letters of the alphabet, with each row of so many appended ones, or fewer. */
    private static void all(int ofTexts, int ofLetters, int most) {
        texts = ofTexts;
        letters = ofLetters;
        allThatBeginWith(new int[0], most);
    }

    private static void allThatBeginWith(int[] row, int most) {
        SuffixWright x = grown(row);
        model = PlainModel.of(IntStream.range(0, texts).mapToObj(text -> Letters.textOf(x, text)).toArray(String[]::new));
        eachPattern(row, "");
        eachFinding(row);
        for (int next = 0; row.length < most && next < texts * letters; next++) {
            int[] longer = Arrays.copyOf(row, row.length + 1);
            longer[row.length] = next;
            allThatBeginWith(longer, most);
        }
    }

    private static SuffixWright grown(int[] row) {
        SuffixWright x = new SuffixWright();
        for (int text = 0; text < texts; text++) {
            x.open();
        }
        for (int each : row) {
            x.append(each / letters, each % letters);
        }
        return x;
    }

    /** The places of each word of three letters or fewer, among them a letter that stands in no text. */
    private static void eachPattern(int[] row, String pattern) {
        SuffixWright x = grown(row);
        Letters.typed(x, pattern);
        model.pattern = pattern;
        for (String call : Calls.PLAIN) {
            hold(x, call);
        }
        for (String call : OF_A_TEXT) {
            for (int text = -1; text <= texts; text++) {
                hold(x, call, text);
            }
        }
        for (char letter = 'a'; pattern.length() < 3 && letter <= 'a' + letters; letter++) {
            eachPattern(row, pattern + letter);
        }
    }

    /** What each number finds, from the last that is refused below to the first that is refused above. */
    private static void eachFinding(int[] row) {
        SuffixWright x = grown(row);
        model.pattern = "";
        eachOf(x, "toPart", -1, (int) model.answer("parts"));
        eachOf(x, "common", 0, 1 << texts);
        eachOf(x, "repeated", 0, row.length + 1);
        eachOf(x, "missing", 0, letters + 1);
    }

    private static void eachOf(SuffixWright x, String call, int from, int to) {
        for (int number = from; number <= to; number++) {
            hold(x, call, number);
            Due.is(call + " " + number + " on " + model.texts + ": pattern", model.pattern, Letters.patternOf(x));
        }
    }

    private static void hold(SuffixWright x, String call, int... a) {
        Object due = model.answer(call, a);
        Due.is(call + Arrays.toString(a) + " on " + model.texts + " with " + model.pattern, due,
                Due.answerOf(() -> Calls.on(x, call, a)));
    }
}
