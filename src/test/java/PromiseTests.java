/** A test or more for each promise: ordinary inputs, the edges that the document names, and wrong inputs. */
final class PromiseTests {
    private static final Class<? extends Exception> INDEX = IndexOutOfBoundsException.class;
    private static final Class<? extends Exception> ARGUMENT = IllegalArgumentException.class;
    private static final Class<? extends Exception> STATE = IllegalStateException.class;
    private static final int[] WILD = {Integer.MIN_VALUE, -1, Integer.MAX_VALUE};

    public static void main(String[] args) {
        aNewObject();
        clear();
        open();
        append();
        appendThrowsInOrder();
        texts();
        length();
        letterAt();
        type();
        erase();
        wipe();
        copy();
        copyThrows();
        patternLength();
        patternAt();
        isPart();
        occurrences();
        occurrencesIn();
        first();
        last();
        followers();
        leaders();
        classes();
        longestAlike();
        shortestAlike();
        parts();
        rank();
        toPart();
        common();
        commonThrows();
        repeated();
        missing();
        missingOfOneLetter();
        Due.end();
    }

    // ---- 1 to 7: texts

    private static void aNewObject() {
        isEmpty("promise 1: a new object", new SuffixWright());
    }

    private static void clear() {
        SuffixWright x = Letters.of("banana", "bandana", "", "a");
        Letters.typed(x, "ana");
        x.clear();
        isEmpty("promise 2: after clear", x);
        Due.is("promise 2: open after clear", 0, x.open());
        Due.is("promise 2: length after clear", 0, x.length(0));
        Due.is("promise 2: append after clear", 1, x.append(0, 2));
        Due.is("promise 2: parts after clear", 1, x.parts());
        x.clear();
        x.open();
        for (int many = 1; many <= 100; many++) {
            Due.is("promise 2: a hundred letters after clear", many, x.append(0, 3));
        }
        Due.thrown("promise 2: one more letter after clear", STATE, () -> x.append(0, 3));
    }

    private static void open() {
        SuffixWright x = new SuffixWright();
        for (int text = 0; text < 4; text++) {
            Due.is("promise 3: open", text, x.open());
            Due.is("promise 3: an opened text", 0, x.length(text));
        }
        Due.thrown("promise 3: open a fifth", STATE, x::open);
        Due.is("promise 3: texts after the fifth", 4, x.texts());
    }

    private static void append() {
        SuffixWright x = Letters.of("", "");
        Due.is("promise 4: append", 1, x.append(0, 0));
        Due.is("promise 4: append", 2, x.append(0, 25));
        Due.is("promise 4: append to another", 1, x.append(1, 25));
        Due.is("promise 4: append to the first again", 3, x.append(0, 7));
        Due.is("promise 4: the letters", "azh", Letters.textOf(x, 0));
        Due.is("promise 4: the letters of the other", "z", Letters.textOf(x, 1));
        x.type(25);
        Due.is("promise 4: what was appended is a part", 2, x.occurrences());
    }

    private static void appendThrowsInOrder() {
        SuffixWright x = Letters.of("ab");
        for (int text : new int[] {Integer.MIN_VALUE, -1, 1, 4, Integer.MAX_VALUE}) {
            Due.thrown("promise 4: append to text " + text, INDEX, () -> x.append(text, 0));
            Due.thrown("promise 4: append -1 to text " + text, INDEX, () -> x.append(text, -1));
        }
        for (int letter : new int[] {Integer.MIN_VALUE, -1, 26, Integer.MAX_VALUE}) {
            Due.thrown("promise 4: append " + letter, ARGUMENT, () -> x.append(0, letter));
        }
        x.open();
        for (int many = 0; many < 98; many++) {
            x.append(many % 2, many % 5);
        }
        Due.thrown("promise 4: the letter 101", STATE, () -> x.append(0, 0));
        Due.thrown("promise 4: the letter 101 elsewhere", STATE, () -> x.append(1, 0));
        Due.thrown("promise 4: the letter 101, wrong", ARGUMENT, () -> x.append(1, 26));
        Due.thrown("promise 4: the letter 101, nowhere", INDEX, () -> x.append(2, 26));
        Due.is("promise 4: nothing has changed", 51, x.length(0));
        Due.is("promise 4: nothing has changed", 49, x.length(1));
    }

    private static void texts() {
        SuffixWright x = new SuffixWright();
        for (int many = 0; many <= 4; many++) {
            Due.is("promise 5: texts", many, x.texts());
            Due.answerOf(x::open);
        }
    }

    private static void length() {
        SuffixWright x = Letters.of("abc", "", "a");
        Due.is("promise 6: length", 3, x.length(0));
        Due.is("promise 6: length of an empty one", 0, x.length(1));
        Due.is("promise 6: length", 1, x.length(2));
        for (int text : new int[] {Integer.MIN_VALUE, -1, 3, 4, Integer.MAX_VALUE}) {
            Due.thrown("promise 6: length of " + text, INDEX, () -> x.length(text));
        }
    }

    private static void letterAt() {
        SuffixWright x = Letters.of("zab", "");
        Due.is("promise 7: letterAt", 25, x.letterAt(0, 0));
        Due.is("promise 7: letterAt", 1, x.letterAt(0, 2));
        for (int number : new int[] {Integer.MIN_VALUE, -1, 3, 100, Integer.MAX_VALUE}) {
            Due.thrown("promise 7: letter " + number, INDEX, () -> x.letterAt(0, number));
            Due.thrown("promise 7: letter of an empty text", INDEX, () -> x.letterAt(1, number));
        }
        for (int text : new int[] {Integer.MIN_VALUE, -1, 2, 4, Integer.MAX_VALUE}) {
            Due.thrown("promise 7: letter of text " + text, INDEX, () -> x.letterAt(text, 0));
        }
    }

    // ---- 8 to 13: the pattern

    private static void type() {
        SuffixWright x = new SuffixWright();
        for (int letter : new int[] {Integer.MIN_VALUE, -1, 26, Integer.MAX_VALUE}) {
            Due.thrown("promise 8: type " + letter, ARGUMENT, () -> x.type(letter));
        }
        for (int many = 1; many <= 120; many++) {
            Due.is("promise 8: type", many, x.type(many % 26));
        }
        Due.thrown("promise 8: the letter 121", STATE, () -> x.type(0));
        Due.thrown("promise 8: the letter 121, wrong", ARGUMENT, () -> x.type(26));
        Due.is("promise 8: the pattern's length", 120, x.patternLength());
        Due.is("promise 8: the pattern's letter", 120 % 26, x.patternAt(119));
    }

    private static void erase() {
        SuffixWright x = new SuffixWright();
        Due.thrown("promise 9: erase nothing", STATE, x::erase);
        Letters.typed(x, "abz");
        Due.is("promise 9: erase", 25, x.erase());
        Due.is("promise 9: erase", 1, x.erase());
        Due.is("promise 9: what is left", "a", Letters.patternOf(x));
        Due.is("promise 9: erase the first", 0, x.erase());
        Due.thrown("promise 9: erase nothing again", STATE, x::erase);
        Due.is("promise 9: nothing has changed", 0, x.patternLength());
    }

    private static void wipe() {
        SuffixWright x = Letters.of("ab");
        Due.is("promise 10: wipe nothing", 0, x.wipe());
        Letters.typed(x, "abc");
        Due.is("promise 10: wipe", 3, x.wipe());
        Due.is("promise 10: wipe again", 0, x.wipe());
        Due.is("promise 10: the pattern", 0, x.patternLength());
        Due.is("promise 10: the texts stay", "ab", Letters.textOf(x, 0));
    }

    private static void copy() {
        SuffixWright x = Letters.of("banana", "xyz");
        Letters.typed(x, "qqqqqqqq");
        x.copy(0, 1, 3);
        Due.is("promise 11: copy", "ana", Letters.patternOf(x));
        x.copy(1, 0, 3);
        Due.is("promise 11: copy all", "xyz", Letters.patternOf(x));
        x.copy(0, 5, 1);
        Due.is("promise 11: copy the last", "a", Letters.patternOf(x));
        x.copy(0, 6, 0);
        Due.is("promise 11: copy none", "", Letters.patternOf(x));
        Letters.typed(x, "q");
        x.copy(0, 0, 0);
        Due.is("promise 11: copy none from the first", "", Letters.patternOf(x));
    }

    private static void copyThrows() {
        SuffixWright x = Letters.of("abc", "");
        Letters.typed(x, "zz");
        int[][] wrong = {{-1, 1}, {0, -1}, {0, 4}, {3, 1}, {4, 0}, {2, 2}, {-1, 2}, {Integer.MAX_VALUE, 1},
            {1, Integer.MAX_VALUE}, {Integer.MAX_VALUE, Integer.MAX_VALUE}, {Integer.MIN_VALUE, Integer.MAX_VALUE},
            {Integer.MIN_VALUE, Integer.MIN_VALUE}, {Integer.MAX_VALUE, 0}, {4, -1}};
        for (int[] each : wrong) {
            Due.thrown("promise 11: copy " + each[0] + ", " + each[1], ARGUMENT, () -> Letters.copied(x, 0, each[0], each[1]));
            Due.thrown("promise 11: copy nowhere", INDEX, () -> Letters.copied(x, 2, each[0], each[1]));
            Due.thrown("promise 11: copy nowhere", INDEX, () -> Letters.copied(x, -1, each[0], each[1]));
        }
        Due.thrown("promise 11: copy of an empty text", ARGUMENT, () -> Letters.copied(x, 1, 0, 1));
        Due.is("promise 11: nothing has changed", "zz", Letters.patternOf(x));
    }

    private static void patternLength() {
        SuffixWright x = Letters.of("abcd");
        Due.is("promise 12: none", 0, x.patternLength());
        x.type(9);
        Due.is("promise 12: typed", 1, x.patternLength());
        x.copy(0, 0, 4);
        Due.is("promise 12: copied", 4, x.patternLength());
        x.erase();
        Due.is("promise 12: erased", 3, x.patternLength());
    }

    private static void patternAt() {
        SuffixWright x = new SuffixWright();
        Due.thrown("promise 13: of none", INDEX, () -> x.patternAt(0));
        Letters.typed(x, "zab");
        Due.is("promise 13: the first", 25, x.patternAt(0));
        Due.is("promise 13: the last", 1, x.patternAt(2));
        x.erase();
        for (int number : new int[] {Integer.MIN_VALUE, -1, 2, 120, Integer.MAX_VALUE}) {
            Due.thrown("promise 13: letter " + number, INDEX, () -> x.patternAt(number));
        }
    }

    // ---- 14 to 20: the places of the pattern

    private static void isPart() {
        SuffixWright x = Letters.of("ab", "cd");
        Due.is("promise 14: the empty pattern", false, x.isPart());
        Letters.typed(x, "ab");
        Due.is("promise 14: a part", true, x.isPart());
        Letters.typed(x, "c");
        Due.is("promise 14: over two texts", false, x.isPart());
        x.append(0, 2);
        Due.is("promise 14: when the text has grown", true, x.isPart());
        x.wipe();
        for (int many = 0; many < 120; many++) {
            x.type(0);
        }
        Due.is("promise 14: longer than all texts", false, x.isPart());
    }

    private static void occurrences() {
        SuffixWright x = Letters.of("aaaa", "aa", "");
        Due.is("promise 15: of the empty pattern", 0, x.occurrences());
        int[] due = {6, 4, 2, 1, 0};
        for (int many : due) {
            x.type(0);
            Due.is("promise 15: overlapping ones count", many, x.occurrences());
        }
        x.wipe();
        x.type(1);
        Due.is("promise 15: no part", 0, x.occurrences());
    }

    private static void occurrencesIn() {
        SuffixWright x = Letters.of("aaaa", "aab", "");
        Due.is("promise 16: of the empty pattern", 0, x.occurrencesIn(0));
        Letters.typed(x, "aa");
        Due.is("promise 16: overlapping ones", 3, x.occurrencesIn(0));
        Due.is("promise 16: in another text", 1, x.occurrencesIn(1));
        Due.is("promise 16: in an empty text", 0, x.occurrencesIn(2));
        Letters.typed(x, "bb");
        Due.is("promise 16: no part", 0, x.occurrencesIn(1));
        for (int text : new int[] {Integer.MIN_VALUE, -1, 3, 4, Integer.MAX_VALUE}) {
            Due.thrown("promise 16: text " + text, INDEX, () -> x.occurrencesIn(text));
        }
    }

    private static void first() {
        SuffixWright x = Letters.of("banana", "xan", "");
        Due.is("promise 17: of the empty pattern", -1, x.first(0));
        Letters.typed(x, "an");
        Due.is("promise 17: first", 1, x.first(0));
        Due.is("promise 17: first in another text", 1, x.first(1));
        Due.is("promise 17: first in an empty text", -1, x.first(2));
        x.type(0);
        Due.is("promise 17: first of overlapping ones", 1, x.first(0));
        Due.is("promise 17: no occurrence there", -1, x.first(1));
        x.copy(0, 0, 6);
        Due.is("promise 17: the whole text", 0, x.first(0));
        x.type(25);
        Due.is("promise 17: no part", -1, x.first(0));
        for (int text : new int[] {Integer.MIN_VALUE, -1, 3, 4, Integer.MAX_VALUE}) {
            Due.thrown("promise 17: text " + text, INDEX, () -> x.first(text));
        }
    }

    private static void last() {
        SuffixWright x = Letters.of("banana", "xan", "");
        Due.is("promise 18: of the empty pattern", -1, x.last(0));
        Letters.typed(x, "an");
        Due.is("promise 18: last", 3, x.last(0));
        Due.is("promise 18: last in another text", 1, x.last(1));
        Due.is("promise 18: last in an empty text", -1, x.last(2));
        x.append(0, 13);
        Due.is("promise 18: when the text has grown", 5, x.last(0));
        Letters.typed(x, "a");
        Due.is("promise 18: last of overlapping ones", 3, x.last(0));
        Due.is("promise 18: no occurrence there", -1, x.last(1));
        x.type(25);
        Due.is("promise 18: no part", -1, x.last(0));
        for (int text : new int[] {Integer.MIN_VALUE, -1, 3, 4, Integer.MAX_VALUE}) {
            Due.thrown("promise 18: text " + text, INDEX, () -> x.last(text));
        }
    }

    private static void followers() {
        SuffixWright x = Letters.of("abacz", "ad");
        Due.is("promise 19: of the empty pattern", Letters.mask("abcdz"), x.followers());
        x.type(0);
        Due.is("promise 19: of a part", Letters.mask("bcd"), x.followers());
        Letters.typed(x, "d");
        Due.is("promise 19: of a text's end", 0, x.followers());
        Letters.typed(x, "d");
        Due.is("promise 19: of no part", 0, x.followers());
        x.wipe();
        x.type(2);
        Due.is("promise 19: the letter 25", 1 << 25, x.followers());
    }

    private static void leaders() {
        SuffixWright x = Letters.of("zabab", "cab", "ab");
        Due.is("promise 20: of the empty pattern", Letters.mask("abcz"), x.leaders());
        Letters.typed(x, "ab");
        Due.is("promise 20: of a part", Letters.mask("bcz"), x.leaders());
        x.wipe();
        Letters.typed(x, "b");
        Due.is("promise 20: of a part with one letter ahead", Letters.mask("a"), x.leaders());
        x.copy(0, 0, 2);
        Due.is("promise 20: of a text's begin", 0, x.leaders());
        Letters.typed(x, "zz");
        Due.is("promise 20: of no part", 0, x.leaders());
        x.wipe();
        for (int many = 0; many < 120; many++) {
            x.type(0);
        }
        Due.is("promise 20: of a full pattern", 0, x.leaders());
    }

    // ---- 21 to 23: classes

    private static void classes() {
        Due.is("promise 21: no text", 0, new SuffixWright().classes());
        Due.is("promise 21: empty texts", 0, Letters.of("", "").classes());
        Due.is("promise 21: banana by plain search", 9, PlainModel.of("banana").answer("classes"));
        Due.is("promise 21: banana", 9, Letters.of("banana").classes());
        Due.is("promise 21: one letter", 4, Letters.of("aaaa").classes());
        Due.is("promise 21: the same text again", 4, Letters.of("aaaa", "aaa").classes());
        Due.is("promise 21: letters that differ", 4, Letters.of("abcd").classes());
        Due.is("promise 21: two texts", 3, Letters.of("ab", "b").classes());
        Due.is("promise 21: ends in other texts are others", PlainModel.of("abc", "bc", "xc").answer("classes"),
                Letters.of("abc", "bc", "xc").classes());
    }

    private static void longestAlike() {
        SuffixWright x = Letters.of("xabc", "yabc");
        Due.is("promise 22: of the empty pattern", -1, x.longestAlike());
        Letters.typed(x, "c");
        Due.is("promise 22: of the shortest of a class", 3, x.longestAlike());
        x.copy(0, 1, 3);
        Due.is("promise 22: of the longest itself", 3, x.longestAlike());
        x.copy(0, 0, 4);
        Due.is("promise 22: of a whole text", 4, x.longestAlike());
        Letters.typed(x, "c");
        Due.is("promise 22: of no part", -1, x.longestAlike());
    }

    private static void shortestAlike() {
        SuffixWright x = Letters.of("xabc", "yabc");
        Due.is("promise 23: of the empty pattern", -1, x.shortestAlike());
        x.copy(0, 1, 3);
        Due.is("promise 23: of the longest of a class", 1, x.shortestAlike());
        x.copy(0, 0, 4);
        Due.is("promise 23: of a whole text", 4, x.shortestAlike());
        Letters.typed(x, "c");
        Due.is("promise 23: of no part", -1, x.shortestAlike());
        x.wipe();
        Letters.typed(x, "x");
        Due.is("promise 23: of a letter", 1, x.shortestAlike());
    }

    // ---- 24 to 26: the order of parts

    private static void parts() {
        Due.is("promise 24: no text", 0, new SuffixWright().parts());
        Due.is("promise 24: an empty text", 0, Letters.of("").parts());
        Due.is("promise 24: banana", 15, Letters.of("banana").parts());
        Due.is("promise 24: one letter", 4, Letters.of("aaaa").parts());
        Due.is("promise 24: a part of two texts counts once", 5, Letters.of("ab", "bc", "b").parts());
        SuffixWright x = Letters.of("abcdefghijklmnopqrstuvwxyz");
        Due.is("promise 24: letters that differ", 26 * 27 / 2, x.parts());
    }

    private static void rank() {
        SuffixWright x = Letters.of("banana");
        // a an ana anan anana b ba ban bana banan banana n na nan nana
        String[] words = {"", "a", "an", "ana", "anan", "anana", "ananas", "b", "ba", "banana", "bananas", "c", "n", "nana", "z"};
        int[] due = {0, 0, 1, 2, 3, 4, 5, 5, 6, 10, 11, 11, 11, 14, 15};
        for (int number = 0; number < words.length; number++) {
            x.wipe();
            Letters.typed(x, words[number]);
            Due.is("promise 25: rank of " + words[number], due[number], x.rank());
            Due.is("promise 25: the pattern stays", words[number], Letters.patternOf(x));
        }
        x.wipe();
        Letters.typed(x, "aa");
        Due.is("promise 25: rank of a word between parts", 1, x.rank());
        Letters.typed(x, "zzzz");
        Due.is("promise 25: rank behind its first letters", 1, x.rank());
        x.wipe();
        Letters.typed(x, "anazz");
        Due.is("promise 25: rank of ana and more", 5, x.rank());
        Due.is("promise 25: rank with no text", 0, Letters.withPattern("zz").rank());
    }

    private static void toPart() {
        String[] due = {"a", "an", "ana", "anan", "anana", "b", "ba", "ban", "bana", "banan", "banana", "n", "na", "nan", "nana"};
        SuffixWright x = Letters.of("banana", "ana");
        for (int number = 0; number < due.length; number++) {
            Due.is("promise 26: letters of part " + number, due[number].length(), x.toPart(number));
            Due.is("promise 26: part " + number, due[number], Letters.patternOf(x));
        }
        for (int number : new int[] {Integer.MIN_VALUE, -1, 15, 16, Integer.MAX_VALUE}) {
            Due.thrown("promise 26: part " + number, INDEX, () -> x.toPart(number));
        }
        Due.is("promise 26: nothing has changed", "nana", Letters.patternOf(x));
        Due.thrown("promise 26: with no text", INDEX, () -> new SuffixWright().toPart(0));
    }

    // ---- 27 to 29: what is found becomes the pattern

    private static void common() {
        SuffixWright x = Letters.of("xabcyde", "abcde", "deabc", "q");
        found("promise 27: one text", "xabcyde", x.common(1), x);
        found("promise 27: two texts", "abc", x.common(3), x);
        found("promise 27: three texts", "abc", x.common(7), x);
        found("promise 27: none in common", "", x.common(15), x);
        found("promise 27: the last text", "q", x.common(8), x);
        SuffixWright y = Letters.of("zbazcd", "cdba", "");
        found("promise 27: the first by the alphabet", "ba", y.common(3), y);
        found("promise 27: an empty text", "", y.common(4), y);
        found("promise 27: with an empty text", "", y.common(7), y);
    }

    private static void commonThrows() {
        SuffixWright x = Letters.of("ab", "b", "");
        Letters.typed(x, "qq");
        for (int set : new int[] {0, 8, 9, 15, 16, -1, -8, Integer.MIN_VALUE, Integer.MIN_VALUE + 1, Integer.MAX_VALUE}) {
            Due.thrown("promise 27: common " + set, ARGUMENT, () -> x.common(set));
        }
        Due.is("promise 27: nothing has changed", "qq", Letters.patternOf(x));
        Due.thrown("promise 27: with no text", ARGUMENT, () -> new SuffixWright().common(1));
        Due.thrown("promise 27: with no text", ARGUMENT, () -> new SuffixWright().common(0));
        SuffixWright four = Letters.of("a", "a", "a", "a");
        found("promise 27: all four", "a", four.common(15), four);
        Due.thrown("promise 27: a fifth", ARGUMENT, () -> four.common(16));
    }

    private static void repeated() {
        SuffixWright x = Letters.of("banana", "band");
        found("promise 28: once", "banana", x.repeated(1), x);
        found("promise 28: twice, the first by the alphabet", "ana", x.repeated(2), x);
        found("promise 28: three times", "an", x.repeated(3), x);
        found("promise 28: four times", "a", x.repeated(4), x);
        found("promise 28: five times", "", x.repeated(5), x);
        found("promise 28: more than may be", "", x.repeated(Integer.MAX_VALUE), x);
        Letters.typed(x, "qq");
        for (int occurrences : new int[] {0, -1, Integer.MIN_VALUE}) {
            Due.thrown("promise 28: repeated " + occurrences, ARGUMENT, () -> x.repeated(occurrences));
        }
        Due.is("promise 28: nothing has changed", "qq", Letters.patternOf(x));
        SuffixWright none = Letters.withPattern("zz");
        found("promise 28: with no text", "", none.repeated(1), none);
        SuffixWright two = Letters.of("zy", "ab");
        found("promise 28: two as long, the first by the alphabet", "ab", two.repeated(1), two);
    }

    private static void missing() {
        SuffixWright x = Letters.of("aabb", "ba");
        found("promise 29: of one letter", "aaa", x.missing(1), x);
        found("promise 29: of two letters", "aaa", x.missing(2), x);
        found("promise 29: of three letters", "c", x.missing(3), x);
        found("promise 29: of all letters", "c", x.missing(26), x);
        SuffixWright y = Letters.of("aabab");
        found("promise 29: not the first letter", "bb", y.missing(2), y);
        SuffixWright all = Letters.of("abcdefghijklmnopqrstuvwxyz");
        found("promise 29: all letters stand there", "aa", all.missing(26), all);
        Letters.typed(x, "qq");
        for (int letters : new int[] {Integer.MIN_VALUE, -1, 0, 27, Integer.MAX_VALUE}) {
            Due.thrown("promise 29: missing " + letters, ARGUMENT, () -> x.missing(letters));
        }
        Due.is("promise 29: nothing has changed", "cqq", Letters.patternOf(x));
        SuffixWright none = Letters.withPattern("zz");
        found("promise 29: with no text", "a", none.missing(26), none);
    }

    private static void missingOfOneLetter() {
        SuffixWright x = new SuffixWright();
        x.open();
        for (int many = 0; many < 100; many++) {
            x.append(0, 0);
        }
        found("promise 29: the longest that may be", "a".repeat(101), x.missing(1), x);
        Due.is("promise 29: it is no part", false, x.isPart());
        found("promise 29: of two letters", "b", x.missing(2), x);
    }

    // ---- helpers

    private static void isEmpty(String what, SuffixWright x) {
        Due.is(what + ": texts", 0, x.texts());
        Due.is(what + ": patternLength", 0, x.patternLength());
        Due.is(what + ": isPart", false, x.isPart());
        Due.is(what + ": occurrences", 0, x.occurrences());
        Due.is(what + ": followers", 0, x.followers());
        Due.is(what + ": leaders", 0, x.leaders());
        Due.is(what + ": classes", 0, x.classes());
        Due.is(what + ": longestAlike", -1, x.longestAlike());
        Due.is(what + ": shortestAlike", -1, x.shortestAlike());
        Due.is(what + ": parts", 0, x.parts());
        Due.is(what + ": rank", 0, x.rank());
        Due.is(what + ": repeated", 0, x.repeated(1));
        for (int text : new int[] {0, WILD[0], WILD[1], WILD[2]}) {
            Due.thrown(what + ": length", INDEX, () -> x.length(text));
            Due.thrown(what + ": append", INDEX, () -> x.append(text, 0));
        }
    }

    private static void found(String what, String due, int letters, SuffixWright x) {
        Due.is(what + ", letters", due.length(), letters);
        Due.is(what, due, Letters.patternOf(x));
    }
}
