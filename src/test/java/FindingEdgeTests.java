/** The boundary cases of the promises 27 to 29: what texts have in common, what comes again, what is missing. */
final class FindingEdgeTests {
    private static final Class<? extends Exception> INDEX = IndexOutOfBoundsException.class;
    private static final Class<? extends Exception> ARGUMENT = IllegalArgumentException.class;
    private static final String FULL = "q".repeat(120);

    public static void main(String[] args) {
        commonOfEachSet();
        commonOfWrongSets();
        commonWithoutTexts();
        commonOfOneText();
        commonOfAnEmptyText();
        commonOfNothing();
        commonOfAHundredLetters();
        commonByTheAlphabet();
        commonTextsAloneCount();
        commonInPlaceOfAFullPattern();
        commonAsTextsGrow();
        repeatedOnceAndMore();
        repeatedBelowOne();
        repeatedMoreThanMayBe();
        repeatedAHundredTimes();
        repeatedOfNothing();
        repeatedInAllTextsTogether();
        repeatedByTheAlphabet();
        repeatedInPlaceOfAFullPattern();
        missingOfWrongNumbers();
        missingOfNothing();
        missingOfOneAndOfAllLetters();
        missingTheGreatestLetter();
        missingLettersThatAreMore();
        missingOfAHundredLetters();
        missingByTheAlphabet();
        missingOverTwoTexts();
        missingInPlaceOfAFullPattern();
        missingAsTextsGrow();
        whatIsFoundLeavesTexts();
        Due.end();
    }

    // ---- 27: common

    private static void commonOfEachSet() {
        String[] texts = {"aab", "bab", "zab", "bz"};
        // By the set: each text has its bit.
        String[] due = {null, "aab", "bab", "ab", "zab", "ab", "ab", "ab", "bz", "b", "b", "b", "b", "b", "b", "b"};
        for (int set = 1; set < 16; set++) {
            int asked = set;
            Due.found("promise 27: the set " + set, due[set], Letters.of(texts), x -> x.common(asked));
        }
    }

    private static void commonOfWrongSets() {
        String[][] each = {{"ab"}, {"ab", "b"}, {"ab", "b", ""}, {"ab", "b", "", "b"}};
        for (String[] texts : each) {
            Due.Making making = () -> Letters.withPattern("qq", texts);
            int all = (1 << texts.length) - 1;
            Due.is("promise 27: all texts", texts.length == 1 ? 2 : texts.length == 2 ? 1 : 0, making.make().common(all));
            for (int set : Letters.outside(0, all)) {
                Due.refused("promise 27: the set " + set, ARGUMENT, making, x -> x.common(set));
            }
            Due.refused("promise 27: no text", ARGUMENT, making, x -> x.common(0));
            Due.refused("promise 27: one there, one not", ARGUMENT, making, x -> x.common(1 | 1 << texts.length));
            Due.refused("promise 27: one there, the bit 31", ARGUMENT, making, x -> x.common(1 | 1 << 31));
            Due.refused("promise 27: all, and the bit 30", ARGUMENT, making, x -> x.common(all | 1 << 30));
            Due.refused("promise 27: all bits", ARGUMENT, making, x -> x.common(-1));
        }
    }

    private static void commonWithoutTexts() {
        for (int set : new int[] {0, 1, 2, 8, 15, 16, -1, Integer.MIN_VALUE, Integer.MAX_VALUE}) {
            Due.refused("promise 27: the set " + set + " and no text", ARGUMENT, () -> Letters.withPattern("qq"), x -> x.common(set));
        }
        SuffixWright x = Letters.of("ab");
        x.clear();
        Due.thrown("promise 27: after clear", ARGUMENT, () -> x.common(1));
    }

    private static void commonOfOneText() {
        SuffixWright x = Letters.of("banana", "a", "", "xyz");
        Due.found("promise 27: the first text", "banana", x, on -> on.common(1));
        Due.found("promise 27: a text of one letter", "a", x, on -> on.common(2));
        Due.found("promise 27: an empty text", "", x, on -> on.common(4));
        Due.found("promise 27: the last text", "xyz", x, on -> on.common(8));
    }

    private static void commonOfAnEmptyText() {
        SuffixWright x = Letters.withPattern("qq", "ab", "ab", "");
        Due.found("promise 27: without the empty text", "ab", x, on -> on.common(3));
        Due.found("promise 27: with the empty text", "", x, on -> on.common(7));
        Due.found("promise 27: the empty text and one", "", x, on -> on.common(5));
        SuffixWright empty = Letters.of("", "", "", "");
        Due.found("promise 27: empty texts", "", empty, on -> on.common(15));
    }

    private static void commonOfNothing() {
        SuffixWright x = Letters.withPattern("qq", "ab", "cd", "bd");
        Due.found("promise 27: nothing in common", "", x, on -> on.common(3));
        Due.found("promise 27: one letter in common", "b", x, on -> on.common(5));
        Due.found("promise 27: another letter in common", "d", x, on -> on.common(6));
        Due.found("promise 27: two by two, and not all", "", x, on -> on.common(7));
    }

    private static void commonOfAHundredLetters() {
        String letters = Letters.ofDifferentPairs();
        Due.found("promise 27: a hundred letters", letters, Letters.of(letters), x -> x.common(1));
        Due.found("promise 27: a hundred in the last", letters, Letters.of("", "", "", letters), x -> x.common(8));
        String half = letters.substring(0, 50);
        Due.found("promise 27: fifty in two", half, Letters.of(half, half), x -> x.common(3));
        String part = "abcabdabeabfabcabdabeabfg";
        Due.found("promise 27: twenty-five in four", part, Letters.of(part, part, part, part), x -> x.common(15));
    }

    private static void commonByTheAlphabet() {
        Due.found("promise 27: the least letter of two", "a", Letters.of("za", "ayz"), x -> x.common(3));
        Due.found("promise 27: the lesser first letter", "ab", Letters.of("zyqab", "abrzy"), x -> x.common(3));
        Due.found("promise 27: the lesser last letter", "zay", Letters.of("zazqzay", "zayrzaz"), x -> x.common(3));
        Due.found("promise 27: the longer one ahead of the lesser", "zz", Letters.of("azz", "zza"), x -> x.common(3));
    }

    private static void commonTextsAloneCount() {
        SuffixWright x = Letters.of("abab", "ab", "abc");
        Due.found("promise 27: twice in one text is not in two", "ab", x, on -> on.common(3));
        Due.found("promise 27: other texts do not count", "abc", x, on -> on.common(4));
        SuffixWright y = Letters.of("cdcd", "ab");
        Due.found("promise 27: twice in one and not in the other", "", y, on -> on.common(3));
    }

    private static void commonInPlaceOfAFullPattern() {
        SuffixWright x = Letters.withPattern(FULL, "xab", "aby");
        Due.found("promise 27: in place of a full pattern", "ab", x, on -> on.common(3));
        Due.thrown("promise 27: nothing is left of it", INDEX, () -> x.patternAt(2));
        SuffixWright none = Letters.withPattern(FULL, "a", "b");
        Due.found("promise 27: none in place of a full pattern", "", none, on -> on.common(3));
    }

    private static void commonAsTextsGrow() {
        SuffixWright x = Letters.of("abc", "");
        for (String letter : new String[] {"a", "b", "c"}) {
            Letters.appended(x, 1, letter);
            Due.found("promise 27: as texts grow", Letters.textOf(x, 1), x, on -> on.common(3));
        }
        Due.thrown("promise 27: a text not yet there", ARGUMENT, () -> x.common(4));
        x.open();
        Due.found("promise 27: and then there", "", x, on -> on.common(4));
    }

    // ---- 28: repeated

    private static void repeatedOnceAndMore() {
        String[] due = {"banana", "ana", "an", "a", ""};
        for (int occurrences = 1; occurrences <= due.length; occurrences++) {
            int asked = occurrences;
            Due.found("promise 28: " + occurrences + " times", due[occurrences - 1], Letters.of("banana", "ban"), x -> x.repeated(asked));
        }
    }

    private static void repeatedBelowOne() {
        for (int occurrences : new int[] {0, -1, -2, -256, -65536, Integer.MIN_VALUE + 1, Integer.MIN_VALUE}) {
            Due.refused("promise 28: " + occurrences + " times", ARGUMENT,
                    () -> Letters.withPattern("qq", "banana"), x -> x.repeated(occurrences));
            Due.refused("promise 28: " + occurrences + " times and no text", ARGUMENT,
                    () -> Letters.withPattern("qq"), x -> x.repeated(occurrences));
        }
    }

    private static void repeatedMoreThanMayBe() {
        for (int occurrences : new int[] {5, 100, 101, 256, 65536, 1 << 30, Integer.MAX_VALUE - 1, Integer.MAX_VALUE}) {
            SuffixWright x = Letters.withPattern("qq", "banana", "an");
            Due.found("promise 28: " + occurrences + " times", "", x, on -> on.repeated(occurrences));
        }
        Due.found("promise 28: as often as may be", "a", Letters.of("banana", "an"), x -> x.repeated(4));
    }

    private static void repeatedAHundredTimes() {
        SuffixWright x = Letters.of("z".repeat(100));
        Due.found("promise 28: once", "z".repeat(100), x, on -> on.repeated(1));
        Due.found("promise 28: twice", "z".repeat(99), x, on -> on.repeated(2));
        Due.found("promise 28: ninety-nine times", "zz", x, on -> on.repeated(99));
        Due.found("promise 28: a hundred times", "z", x, on -> on.repeated(100));
        Due.found("promise 28: a hundred and one times", "", x, on -> on.repeated(101));
    }

    private static void repeatedOfNothing() {
        Due.found("promise 28: no text", "", Letters.withPattern("qq"), x -> x.repeated(1));
        Due.found("promise 28: empty texts", "", Letters.withPattern("qq", "", "", "", ""), x -> x.repeated(1));
        Due.found("promise 28: one letter", "a", Letters.withPattern("qq", "", "a"), x -> x.repeated(1));
        Due.found("promise 28: one letter, twice", "", Letters.withPattern("qq", "", "a"), x -> x.repeated(2));
    }

    private static void repeatedInAllTextsTogether() {
        SuffixWright x = Letters.of("ab", "ab", "abab", "c");
        Due.found("promise 28: four times in three texts", "ab", x, on -> on.repeated(4));
        Due.found("promise 28: five times", "", x, on -> on.repeated(5));
        SuffixWright y = Letters.of("a".repeat(25), "a".repeat(25), "a".repeat(25), "a".repeat(25));
        Due.found("promise 28: a hundred times in four texts", "a", y, on -> on.repeated(100));
        Due.found("promise 28: four times in four texts", "a".repeat(25), y, on -> on.repeated(4));
        Due.found("promise 28: eight times in four texts", "a".repeat(24), y, on -> on.repeated(8));
    }

    private static void repeatedByTheAlphabet() {
        Due.found("promise 28: the least letter", "a", Letters.of("zbaabz"), x -> x.repeated(2));
        Due.found("promise 28: the lesser first letter", "ab", Letters.of("zyqabrzysab"), x -> x.repeated(2));
        Due.found("promise 28: the lesser last letter", "zay", Letters.of("zazqzayrzaz", "zay"), x -> x.repeated(2));
        Due.found("promise 28: the longer one ahead of the lesser", "zz", Letters.of("azzzcadzz"), x -> x.repeated(3));
        Due.found("promise 28: the lesser of two texts", "ay", Letters.of("az", "b", "ay"), x -> x.repeated(1));
    }

    private static void repeatedInPlaceOfAFullPattern() {
        SuffixWright x = Letters.withPattern(FULL, "abab");
        Due.found("promise 28: in place of a full pattern", "ab", x, on -> on.repeated(2));
        Due.thrown("promise 28: nothing is left of it", INDEX, () -> x.patternAt(2));
        SuffixWright none = Letters.withPattern(FULL, "ab");
        Due.found("promise 28: none in place of a full pattern", "", none, on -> on.repeated(2));
    }

    // ---- 29: missing

    private static void missingOfWrongNumbers() {
        for (int letters : Letters.outside(1, 26)) {
            Due.refused("promise 29: of " + letters, ARGUMENT, () -> Letters.withPattern("qq", "banana"), x -> x.missing(letters));
            Due.refused("promise 29: of " + letters + " and no text", ARGUMENT, () -> Letters.withPattern("qq"), x -> x.missing(letters));
        }
    }

    private static void missingOfNothing() {
        for (int letters : new int[] {1, 2, 25, 26}) {
            Due.found("promise 29: no text", "a", Letters.withPattern("qq"), x -> x.missing(letters));
            Due.found("promise 29: empty texts", "a", Letters.withPattern("qq", "", "", "", ""), x -> x.missing(letters));
        }
    }

    private static void missingOfOneAndOfAllLetters() {
        SuffixWright x = Letters.of(Letters.ALPHABET);
        Due.found("promise 29: of one letter", "aa", x, on -> on.missing(1));
        Due.found("promise 29: of all letters", "aa", x, on -> on.missing(26));
        SuffixWright y = Letters.of(Letters.ofDifferentPairs());
        Due.found("promise 29: one letter, and two stand there", "aaa", y, on -> on.missing(1));
        // All pairs that begin with a or b stand there, and ca and cb.
        Due.found("promise 29: all letters, and many pairs stand there", "cc", y, on -> on.missing(26));
        Due.found("promise 29: two letters, and all pairs stand there", "aaa", y, on -> on.missing(2));
    }

    private static void missingTheGreatestLetter() {
        SuffixWright x = Letters.of("abcdefghijklmnopqrstuvwxy");
        Due.found("promise 29: the letter 25", "z", x, on -> on.missing(26));
        Due.found("promise 29: without the letter 25", "aa", x, on -> on.missing(25));
        x.append(0, 25);
        Due.found("promise 29: and with it in the text", "aa", x, on -> on.missing(26));
    }

    private static void missingLettersThatAreMore() {
        SuffixWright x = Letters.of("b");
        Due.found("promise 29: a is less than one", "a", x, on -> on.missing(1));
        SuffixWright y = Letters.of("a");
        Due.found("promise 29: b is not less than one", "aa", y, on -> on.missing(1));
        Due.found("promise 29: b is less than two", "b", y, on -> on.missing(2));
        // aa ab ac ba bb cc
        SuffixWright z = Letters.of("aabbacc");
        Due.found("promise 29: c is not less than two", "aaa", z, on -> on.missing(2));
        Due.found("promise 29: c is less than three", "bc", z, on -> on.missing(3));
    }

    private static void missingOfAHundredLetters() {
        SuffixWright x = Letters.of("a".repeat(100));
        Due.found("promise 29: a hundred and one letters", "a".repeat(101), x, on -> on.missing(1));
        Due.is("promise 29: it is no part", false, x.isPart());
        Due.found("promise 29: one letter", "b", x, on -> on.missing(26));
        SuffixWright y = Letters.of("", "", "", "a".repeat(100));
        Due.found("promise 29: in the last text", "a".repeat(101), y, on -> on.missing(1));
    }

    private static void missingByTheAlphabet() {
        Due.found("promise 29: the first of two letters", "b", Letters.of("ac"), x -> x.missing(26));
        Due.found("promise 29: the first pair", "aa", Letters.of("ba"), x -> x.missing(2));
        Due.found("promise 29: the pair in the middle", "ba", Letters.of("aabb"), x -> x.missing(2));
        Due.found("promise 29: the last pair", "bb", Letters.of("aaba"), x -> x.missing(2));
        Due.found("promise 29: the shorter ahead of the lesser", "c", Letters.of("ab"), x -> x.missing(26));
    }

    private static void missingOverTwoTexts() {
        Due.found("promise 29: a pair over two texts is missing", "ab", Letters.of("aa", "bba"), x -> x.missing(2));
        Due.found("promise 29: letters of all texts stand there", "d", Letters.of("a", "b", "", "c"), x -> x.missing(26));
        Due.found("promise 29: pairs of all texts stand there", "aaa", Letters.of("aa", "ab", "ba", "bb"), x -> x.missing(2));
    }

    private static void missingInPlaceOfAFullPattern() {
        SuffixWright x = Letters.withPattern(FULL, "ab");
        Due.found("promise 29: in place of a full pattern", "c", x, on -> on.missing(3));
        Due.thrown("promise 29: nothing is left of it", INDEX, () -> x.patternAt(1));
    }

    private static void missingAsTextsGrow() {
        SuffixWright x = Letters.of("");
        for (int many = 1; many <= 100; many++) {
            Due.is("promise 29: one more than the text has", many, x.missing(1));
            x.append(0, 0);
        }
        Due.is("promise 29: as many as may be", 101, x.missing(1));
    }

    // ---- 26 to 29: texts

    private static void whatIsFoundLeavesTexts() {
        String[] texts = {"banana", "nab", "", "z"};
        Due.CallOn[] calls = {x -> x.toPart(7), x -> x.common(3), x -> x.repeated(2), x -> x.missing(26)};
        // a ab an ana anan anana b ba
        String[] due = {"ba", "na", "ana", "c"};
        for (int call = 0; call < calls.length; call++) {
            SuffixWright x = Letters.withPattern(FULL, texts);
            calls[call].on(x);
            String like = Letters.everythingOf(Letters.withPattern(due[call], texts));
            Due.is("promises 26 to 29: the texts stay, and " + due[call] + " is the pattern", like, Letters.everythingOf(x));
        }
    }
}
