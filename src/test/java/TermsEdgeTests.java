import java.lang.reflect.Method;
import java.util.TreeSet;

/** The boundary cases that the document names under "Terms", and what each refused call leaves as it was. */
final class TermsEdgeTests {
    private static final Class<? extends Exception> INDEX = IndexOutOfBoundsException.class;
    private static final Class<? extends Exception> ARGUMENT = IllegalArgumentException.class;
    private static final Class<? extends Exception> STATE = IllegalStateException.class;

    public static void main(String[] args) {
        lettersInAnyOrderOfTexts();
        nothingIsTakenBack();
        refusedOnANewObject();
        refusedOnEmptyTexts();
        refusedOnAnOrdinaryObject();
        refusedOnAFullObject();
        theExceptionNamedFirst();
        atMostFourTexts();
        textsAreNumberedFromNought();
        aHundredLettersInOneText();
        aHundredLettersInFourTexts();
        aLetterIsNoughtToTwentyFive();
        lettersOfATextAreNumberedFromNought();
        aPartHasOneLetterOrMore();
        aPartStandsInOneText();
        aPartHasNoGap();
        occurrencesMayOverlap();
        theLesserLetterComesFirst();
        whatTheOtherBeginsWithComesFirst();
        alikeByText();
        alikeByNumber();
        alikeInAllOccurrences();
        theShorterIsTheEndOfTheLonger();
        aClassHasAllThatAreAlike();
        thePatternHasAtMost120Letters();
        thePatternIsEmptyAtFirst();
        thePatternMayBeAPartOrNot();
        none();
        fiveHundredAndTwelveCalls();
        eachCallMayBeTheLastOfThem();
        asManyLettersAsThereAreCalls();
        objectsAreOnTheirOwn();
        Due.end();
    }

    // ---- texts grow in any order, and nothing is taken back

    private static void lettersInAnyOrderOfTexts() {
        String[] texts = {"banana", "nab", "", "anab"};
        // The text of each letter in turn.
        String[] orders = {"0000001113333", "3333111000000", "1113333000000", "0130130130300", "3103103103000", "0000003311133"};
        for (String pattern : new String[] {"", "an", "nab", "anab", "x"}) {
            String due = Letters.everythingOf(Letters.withPattern(pattern, texts));
            for (String order : orders) {
                Due.is("terms: " + pattern + " in texts grown by " + order, due,
                        Letters.everythingOf(Letters.asks(grownBy(order, texts), pattern)));
            }
        }
    }

    private static SuffixWright grownBy(String order, String... texts) {
        SuffixWright x = Letters.of("", "", "", "");
        for (char digit : order.toCharArray()) {
            int text = digit - '0';
            x.append(text, texts[text].charAt(x.length(text)) - 'a');
        }
        return x;
    }

    private static void nothingIsTakenBack() {
        SuffixWright x = Letters.withPattern("n", "banana");
        x.erase();
        x.wipe();
        x.missing(3);
        Due.is("terms: a text keeps its letters", "banana", Letters.textOf(x, 0));
    }

    // ---- a call that throws changes nothing

    private static void refusedOnANewObject() {
        Due.Making making = SuffixWright::new;
        for (int text : Letters.outside(0, -1)) {
            refusedTexts("new", making, text);
        }
        refusedLetters("new", making);
        refusedSearches("new", making, 0, 0);
        refusedPatternAt("new", making, 0);
        Due.refused("new: erase", STATE, making, SuffixWright::erase);
    }

    private static void refusedOnEmptyTexts() {
        Due.Making making = () -> Letters.of("", "", "");
        for (int text : Letters.outside(0, 2)) {
            refusedTexts("empty texts", making, text);
        }
        for (int text = 0; text < 3; text++) {
            refusedIn("empty texts", making, text, 0);
        }
        refusedLetters("empty texts", making);
        refusedSearches("empty texts", making, 3, 0);
        refusedPatternAt("empty texts", making, 0);
        Due.refused("empty texts: erase", STATE, making, SuffixWright::erase);
    }

    private static void refusedOnAnOrdinaryObject() {
        Due.Making making = () -> Letters.withPattern("an", "banana", "band");
        for (int text : Letters.outside(0, 1)) {
            refusedTexts("banana", making, text);
        }
        refusedIn("banana", making, 0, 6);
        refusedIn("banana", making, 1, 4);
        refusedLetters("banana", making);
        refusedAppends("banana", making, 0);
        refusedAppends("banana", making, 1);
        // a an ana anan anana and b ba ban bana banan banana band d n na nan nana nd
        refusedSearches("banana", making, 2, 19);
        refusedPatternAt("banana", making, 2);
    }

    private static void refusedOnAFullObject() {
        Due.Making making = TermsEdgeTests::full;
        for (int text : Letters.outside(0, 3)) {
            refusedTexts("full", making, text);
        }
        for (int text = 0; text < 4; text++) {
            int there = text;
            Due.refused("full: append to " + text, STATE, making, x -> x.append(there, 0));
            refusedAppends("full", making, text);
            refusedIn("full", making, text, 25);
        }
        refusedLetters("full", making);
        refusedSearches("full", making, 4, full().parts());
        refusedPatternAt("full", making, 120);
        Due.refused("full: type", STATE, making, x -> x.type(0));
        Due.refused("full: open", STATE, making, SuffixWright::open);
    }

    private static SuffixWright full() {
        String letters = "abacabadabacabaeabacabada";
        return Letters.withPattern("cab".repeat(40), letters, letters.replace('a', 'z'), "z".repeat(25), "ab" + "y".repeat(23));
    }

    private static void refusedTexts(String what, Due.Making making, int text) {
        Due.refused(what + ": append to " + text, INDEX, making, x -> x.append(text, 0));
        Due.refused(what + ": length of " + text, INDEX, making, x -> x.length(text));
        Due.refused(what + ": letterAt of " + text, INDEX, making, x -> x.letterAt(text, 0));
        Due.refused(what + ": copy of " + text, INDEX, making, x -> Letters.copied(x, text, 0, 0));
        Due.refused(what + ": occurrencesIn " + text, INDEX, making, x -> x.occurrencesIn(text));
        Due.refused(what + ": first in " + text, INDEX, making, x -> x.first(text));
        Due.refused(what + ": last in " + text, INDEX, making, x -> x.last(text));
    }

    private static void refusedIn(String what, Due.Making making, int text, int length) {
        for (int number : Letters.outside(0, length - 1)) {
            Due.refused(what + ": letter " + number + " of " + text, INDEX, making, x -> x.letterAt(text, number));
        }
        for (int from : Letters.outside(0, length)) {
            Due.refused(what + ": copy from " + from, ARGUMENT, making, x -> Letters.copied(x, text, from, 0));
        }
        for (int many : Letters.outside(0, length)) {
            Due.refused(what + ": copy " + many, ARGUMENT, making, x -> Letters.copied(x, text, 0, many));
        }
    }

    private static void refusedAppends(String what, Due.Making making, int text) {
        for (int letter : Letters.outside(0, 25)) {
            Due.refused(what + ": append " + letter, ARGUMENT, making, x -> x.append(text, letter));
        }
    }

    private static void refusedLetters(String what, Due.Making making) {
        for (int letter : Letters.outside(0, 25)) {
            Due.refused(what + ": type " + letter, ARGUMENT, making, x -> x.type(letter));
        }
        for (int letters : Letters.outside(1, 26)) {
            Due.refused(what + ": missing " + letters, ARGUMENT, making, x -> x.missing(letters));
        }
        for (int occurrences : new int[] {0, -1, -256, -65536, Integer.MIN_VALUE + 1, Integer.MIN_VALUE}) {
            Due.refused(what + ": repeated " + occurrences, ARGUMENT, making, x -> x.repeated(occurrences));
        }
    }

    private static void refusedSearches(String what, Due.Making making, int texts, int parts) {
        Due.refused(what + ": common of none", ARGUMENT, making, x -> x.common(0));
        for (int set : Letters.outside(0, (1 << texts) - 1)) {
            Due.refused(what + ": common " + set, ARGUMENT, making, x -> x.common(set));
        }
        for (int number : Letters.outside(0, parts - 1)) {
            Due.refused(what + ": part " + number, INDEX, making, x -> x.toPart(number));
        }
    }

    private static void refusedPatternAt(String what, Due.Making making, int length) {
        for (int number : Letters.outside(0, length - 1)) {
            Due.refused(what + ": patternAt " + number, INDEX, making, x -> x.patternAt(number));
        }
    }

    private static void theExceptionNamedFirst() {
        SuffixWright x = full();
        Due.thrown("terms: no text, no letter, no room", INDEX, () -> x.append(4, 26));
        Due.thrown("terms: no text, no room", INDEX, () -> x.append(-1, 25));
        Due.thrown("terms: no letter, no room", ARGUMENT, () -> x.append(3, -1));
        Due.thrown("terms: no letter, no room to type", ARGUMENT, () -> x.type(26));
        Due.thrown("terms: no text, nothing to copy", INDEX, () -> Letters.copied(x, 4, -1, 1));
        Due.thrown("terms: no text, too much to copy", INDEX, () -> Letters.copied(x, -1, 0, 26));
        SuffixWright some = Letters.of("a");
        Due.thrown("terms: no text, no letter", INDEX, () -> some.append(1, -1));
    }

    // ---- texts

    private static void atMostFourTexts() {
        SuffixWright x = Letters.of("a", "b", "c");
        Due.is("terms: a fourth text", 3, x.open());
        Due.thrown("terms: a fifth text", STATE, x::open);
        Due.is("terms: four texts", 4, x.texts());
    }

    private static void textsAreNumberedFromNought() {
        SuffixWright x = Letters.of("a", "bb", "ccc", "dddd");
        for (int text = 0; text < 4; text++) {
            Due.is("terms: text " + text, String.valueOf((char) ('a' + text)).repeat(text + 1), Letters.textOf(x, text));
        }
        Due.thrown("terms: text -1", INDEX, () -> x.length(-1));
        Due.thrown("terms: text 4", INDEX, () -> x.length(4));
    }

    private static void aHundredLettersInOneText() {
        for (int text = 0; text < 4; text++) {
            int there = text;
            SuffixWright x = Letters.of("", "", "", "");
            Letters.appended(x, text, "ab".repeat(49) + "a");
            Due.is("terms: letter 100 in " + text, 100, x.append(text, 1));
            for (int other = 0; other < 4; other++) {
                int elsewhere = other;
                Due.thrown("terms: letter 101 in " + other, STATE, () -> x.append(elsewhere, 1));
            }
            Due.is("terms: a hundred letters in " + text, "ab".repeat(50), Letters.textOf(x, there));
        }
    }

    private static void aHundredLettersInFourTexts() {
        SuffixWright x = Letters.of("a".repeat(33), "b".repeat(33), "c".repeat(33), "");
        Due.is("terms: letter 100 together", 1, x.append(3, 25));
        for (int text = 0; text < 4; text++) {
            int there = text;
            Due.thrown("terms: letter 101 together", STATE, () -> x.append(there, 25));
        }
        Due.is("terms: the last one stands", "z", Letters.textOf(x, 3));
    }

    private static void aLetterIsNoughtToTwentyFive() {
        SuffixWright x = Letters.of("");
        Due.is("terms: append 0", 1, x.append(0, 0));
        Due.is("terms: append 25", 2, x.append(0, 25));
        Due.is("terms: type 0", 1, x.type(0));
        Due.is("terms: type 25", 2, x.type(25));
        for (int letter : Letters.outside(0, 25)) {
            Due.thrown("terms: append " + letter, ARGUMENT, () -> x.append(0, letter));
            Due.thrown("terms: type " + letter, ARGUMENT, () -> x.type(letter));
        }
        Due.is("terms: they are the letters", "az", Letters.textOf(x, 0));
        Due.is("terms: az stands there", 1, x.occurrences());
    }

    private static void lettersOfATextAreNumberedFromNought() {
        SuffixWright x = Letters.of("abc");
        Due.is("terms: the first letter", 0, x.letterAt(0, 0));
        Due.is("terms: the last letter", 2, x.letterAt(0, 2));
        Due.thrown("terms: ahead of the first", INDEX, () -> x.letterAt(0, -1));
        Due.thrown("terms: behind the last", INDEX, () -> x.letterAt(0, 3));
    }

    // ---- parts

    private static void aPartHasOneLetterOrMore() {
        SuffixWright x = Letters.of("a");
        Due.is("terms: no letter", false, x.isPart());
        Due.is("terms: no part has none", 1, x.parts());
        x.type(0);
        Due.is("terms: one letter", true, x.isPart());
    }

    private static void aPartStandsInOneText() {
        SuffixWright x = Letters.withPattern("ab", "a", "b");
        Due.is("terms: over two texts", false, x.isPart());
        x.append(0, 1);
        Due.is("terms: in one text", true, x.isPart());
        Letters.asks(x, "ba");
        Due.is("terms: from a text to the one ahead of it", false, x.isPart());
    }

    private static void aPartHasNoGap() {
        SuffixWright x = Letters.withPattern("ac", "abcb");
        Due.is("terms: with a gap", false, x.isPart());
        Due.is("terms: the other way round", false, Letters.asks(x, "cba").isPart());
        Due.is("terms: one behind the other", true, Letters.asks(x, "bc").isPart());
    }

    private static void occurrencesMayOverlap() {
        SuffixWright x = Letters.withPattern("aba", "abababa");
        Due.is("terms: three that overlap", 3, x.occurrences());
        Due.is("terms: the first of them", 0, x.first(0));
        Due.is("terms: the last of them", 4, x.last(0));
    }

    private static void theLesserLetterComesFirst() {
        SuffixWright x = Letters.of("az", "ba", "zy", "zz");
        // a az b ba y z zy zz
        String[] due = {"a", "az", "b", "ba", "y", "z", "zy", "zz"};
        for (int number = 0; number < due.length; number++) {
            x.toPart(number);
            Due.is("terms: by the letter where they differ first, " + number, due[number], Letters.patternOf(x));
            Due.is("terms: rank of " + due[number], number, x.rank());
        }
    }

    private static void whatTheOtherBeginsWithComesFirst() {
        SuffixWright x = Letters.of("aaaa");
        for (int number = 0; number < 4; number++) {
            Due.is("terms: the shorter one first", number + 1, x.toPart(number));
            Due.is("terms: rank of it", number, x.rank());
        }
    }

    // ---- classes

    private static void alikeByText() {
        // b stands at the number 1 in both texts, ab in the one alone.
        SuffixWright x = Letters.withPattern("b", "ab", "cb");
        Due.is("terms: b is alike with b alone", 1, x.longestAlike());
        Due.is("terms: a b ab c cb", 5, x.classes());
        SuffixWright same = Letters.withPattern("b", "ab", "ab");
        Due.is("terms: ab wherever b is", 2, same.longestAlike());
        Due.is("terms: a and ab", 2, same.classes());
    }

    private static void alikeByNumber() {
        SuffixWright x = Letters.withPattern("b", "abab");
        Due.is("terms: ab wherever b is, twice", 2, x.longestAlike());
        SuffixWright y = Letters.withPattern("b", "abcb");
        Due.is("terms: ab at one of two", 1, y.longestAlike());
        // As many occurrences, and yet other ends.
        Due.is("terms: a and b are not alike", 1, Letters.withPattern("a", "ba", "ab").longestAlike());
    }

    private static void alikeInAllOccurrences() {
        SuffixWright x = Letters.withPattern("b", "ab", "ab");
        x.append(1, 1);
        Due.is("terms: no more, when b comes without a", 1, x.longestAlike());
        Letters.asks(x, "ab");
        Due.is("terms: ab is on its own then", 2, x.shortestAlike());
    }

    private static void theShorterIsTheEndOfTheLonger() {
        SuffixWright x = Letters.of("abc");
        for (String part : new String[] {"c", "bc", "abc"}) {
            Letters.asks(x, part);
            Due.is("terms: the shortest alike with " + part, 1, x.shortestAlike());
            Due.is("terms: the longest alike with " + part, 3, x.longestAlike());
        }
        // "ab" begins where "abc" does, and does not end where it does.
        Due.is("terms: ab is another", 2, Letters.asks(x, "ab").longestAlike());
    }

    private static void aClassHasAllThatAreAlike() {
        SuffixWright x = Letters.withPattern("b", "a".repeat(99) + "b");
        Due.is("terms: the longest of a hundred", 100, x.longestAlike());
        Due.is("terms: the shortest of a hundred", 1, x.shortestAlike());
        Due.is("terms: a hundred in one class, a part in each other", 100, x.classes());
        Due.is("terms: parts of all classes", 199, x.parts());
    }

    // ---- the pattern

    private static void thePatternHasAtMost120Letters() {
        SuffixWright x = Letters.withPattern("c".repeat(119));
        Due.is("terms: letter 120 of the pattern", 120, x.type(25));
        Due.thrown("terms: letter 121 of the pattern", STATE, () -> x.type(25));
        Due.is("terms: the pattern", "c".repeat(119) + "z", Letters.patternOf(x));
        Due.is("terms: the letter 0 of the pattern", 2, x.patternAt(0));
        Due.is("terms: the letter 119 of the pattern", 25, x.patternAt(119));
        Due.thrown("terms: the letter 120 of the pattern", INDEX, () -> x.patternAt(120));
    }

    private static void thePatternIsEmptyAtFirst() {
        Due.is("terms: the pattern at first", 0, new SuffixWright().patternLength());
        Due.is("terms: the pattern when texts have letters", 0, Letters.of("abc").patternLength());
    }

    private static void thePatternMayBeAPartOrNot() {
        SuffixWright x = Letters.withPattern("ab", "ab");
        Due.is("terms: a part", true, x.isPart());
        x.type(2);
        Due.is("terms: no part, and yet the pattern", "abc", Letters.patternOf(x));
        Due.is("terms: no part", false, x.isPart());
    }

    private static void none() {
        Due.is("terms: NONE", -1, SuffixWright.NONE);
        Due.is("terms: NONE is answered", SuffixWright.NONE, new SuffixWright().longestAlike());
    }

    // ---- objects

    private static void fiveHundredAndTwelveCalls() {
        SuffixWright x = full();
        // 4 texts, 100 letters and 120 typed are 224 calls.
        int[] parts = new int[287];
        TreeSet<Integer> answers = new TreeSet<>();
        for (int call = 0; call < parts.length; call++) {
            answers.add(x.parts());
        }
        Due.is("terms: all answers up to call 511", 1, answers.size());
        Due.is("terms: the call 512", 120, x.wipe());
    }

    private static void eachCallMayBeTheLastOfThem() {
        for (Method each : SuffixWright.class.getMethods()) {
            if (each.getDeclaringClass() == SuffixWright.class) {
                theLastCall(each.getName(), 1, 1, 1);
            }
        }
    }

    private static void theLastCall(String call, int... a) {
        // 2 texts, 8 letters and 2 typed are 12 calls.
        SuffixWright x = Letters.withPattern("an", "banana", "na");
        PlainModel model = PlainModel.of("banana", "na");
        model.pattern = "an";
        String[] between = {"type", "erase", "rank", "append"};
        for (int made = 12; made < 511; made++) {
            String next = between[made % 4];
            Due.answerOf(() -> Calls.on(x, next, 1, 26));
        }
        Due.is("terms: the call 512, " + call, model.answer(call, a), Due.answerOf(() -> Calls.on(x, call, a)));
    }

    private static void asManyLettersAsThereAreCalls() {
        SuffixWright x = new SuffixWright();
        for (int turn = 0; turn < 5; turn++) {
            x.clear();
            Letters.opened(x, "a" + "b".repeat(99));
        }
        // These were 510 calls.
        Due.is("terms: the call 511", 198, x.classes());
        Due.is("terms: the call 512", 199, x.parts());
    }

    private static void objectsAreOnTheirOwn() {
        SuffixWright one = Letters.withPattern("an", "banana");
        String before = Letters.everythingOf(Letters.withPattern("an", "banana"));
        SuffixWright other = Letters.withPattern("zz", "zzz", "y");
        other.missing(26);
        other.clear();
        Due.is("terms: another object changes nothing", before, Letters.everythingOf(one));
    }
}
