/** Objects made from words, and words read from objects: 'a' is the letter 0. */
final class Letters {
    static final String ALPHABET = "abcdefghijklmnopqrstuvwxyz";

    /** The least and the greatest int, and numbers that are small ones when they are cut to fewer bits. */
    private static final int[] FAR = {Integer.MIN_VALUE, Integer.MIN_VALUE + 1, -(1 << 16), -(1 << 8), 1 << 8, 1 << 16,
        1 << 30, Integer.MAX_VALUE - 1, Integer.MAX_VALUE};

    private Letters() {
    }

    static SuffixWright of(String... texts) {
        SuffixWright x = new SuffixWright();
        opened(x, texts);
        return x;
    }

    static SuffixWright withPattern(String pattern, String... texts) {
        SuffixWright x = of(texts);
        typed(x, pattern);
        return x;
    }

    static void opened(SuffixWright x, String... texts) {
        for (String letters : texts) {
            appended(x, x.open(), letters);
        }
    }

    static void appended(SuffixWright x, int text, String letters) {
        for (char letter : letters.toCharArray()) {
            x.append(text, letter - 'a');
        }
    }

    static void typed(SuffixWright x, String letters) {
        for (char letter : letters.toCharArray()) {
            x.type(letter - 'a');
        }
    }

    /** Makes another word the pattern. */
    static SuffixWright asks(SuffixWright x, String letters) {
        x.wipe();
        typed(x, letters);
        return x;
    }

    static Object copied(SuffixWright x, int text, int from, int many) {
        x.copy(text, from, many);
        return "copied";
    }

    static String textOf(SuffixWright x, int text) {
        StringBuilder letters = new StringBuilder();
        int length = x.length(text);
        for (int number = 0; number < length; number++) {
            letters.append((char) ('a' + x.letterAt(text, number)));
        }
        return letters.toString();
    }

    static String patternOf(SuffixWright x) {
        StringBuilder pattern = new StringBuilder();
        int length = x.patternLength();
        for (int number = 0; number < length; number++) {
            pattern.append((char) ('a' + x.patternAt(number)));
        }
        return pattern.toString();
    }

    static int mask(String letters) {
        int mask = 0;
        for (char letter : letters.toCharArray()) {
            mask |= 1 << letter - 'a';
        }
        return mask;
    }

    /** A hundred letters, of which no two stand one behind the other twice: no texts have more parts. */
    static String ofDifferentPairs() {
        StringBuilder letters = new StringBuilder();
        for (char first = 'a'; first <= 'b'; first++) {
            letters.append(first).append(first);
            for (char second = (char) (first + 1); second <= 'z'; second++) {
                letters.append(second).append(second < 'z' ? String.valueOf(first) : "");
            }
        }
        return letters.toString();
    }

    /** The numbers right outside of a range, and those far from it. */
    static int[] outside(int least, int greatest) {
        java.util.TreeSet<Integer> numbers = new java.util.TreeSet<>(java.util.List.of(least - 1, greatest + 1));
        for (int number : FAR) {
            if (number < least || number > greatest) {
                numbers.add(number);
            }
        }
        return numbers.stream().mapToInt(Integer::intValue).toArray();
    }

    /**
     * All that an object answers, and at last how much room it has left, which uses it up.
     * With what made the object these are some 500 calls at most, as many as one is used for.
     */
    static String everythingOf(SuffixWright x) {
        StringBuilder all = new StringBuilder();
        int texts = x.texts();
        for (int text = 0; text < texts; text++) {
            all.append(textOf(x, text)).append(" has it ").append(x.occurrencesIn(text)).append(" times from ")
                    .append(x.first(text)).append(" to ").append(x.last(text)).append(", ");
        }
        all.append("pattern ").append(patternOf(x)).append(x.isPart() ? " is a part, " : " is no part, ");
        all.append(x.occurrences()).append(" in all, behind ").append(x.followers()).append(", ahead ").append(x.leaders());
        all.append(", alike ").append(x.shortestAlike()).append(" to ").append(x.longestAlike());
        all.append(", classes ").append(x.classes()).append(", parts ").append(x.parts()).append(", rank ").append(x.rank());
        return all.append(roomOf(x)).toString();
    }

    private static String roomOf(SuffixWright x) {
        int typed = 0;
        while (typed < 121 && Due.answerOf(() -> x.type(1)) instanceof Integer) {
            typed++;
        }
        int opened = 0;
        while (opened < 5 && Due.answerOf(x::open) instanceof Integer) {
            opened++;
        }
        int appended = 0;
        while (appended < 101 && Due.answerOf(() -> x.append(3, 1)) instanceof Integer) {
            appended++;
        }
        return ", room for " + typed + " typed, " + opened + " opened, " + appended + " appended";
    }
}
