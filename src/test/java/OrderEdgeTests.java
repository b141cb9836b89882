/** The boundary cases of the promises 21 to 26: classes, and the order of parts. */
final class OrderEdgeTests {
    private static final Class<? extends Exception> INDEX = IndexOutOfBoundsException.class;

    public static void main(String[] args) {
        classesOfNothing();
        classesOfOneLetter();
        asManyClassesAsMayBe();
        classesAsTextsGrow();
        alikeOfNoPart();
        alikeOfOneLetter();
        alikeOfAHundredLetters();
        alikeOfAClassOfOne();
        alikeAsAClassIsSplit();
        partsOfNothing();
        partsOfOneLetter();
        asManyPartsAsMayBe();
        partsCountOnce();
        rankOfTheEmptyPattern();
        rankWithoutParts();
        rankOfTheFirstAndTheLast();
        rankAheadOfAllAndBehindAll();
        rankOfWhatBeginsWithAPart();
        rankOfWhatAPartBeginsWith();
        rankOfAFullPattern();
        rankIsOverAllTexts();
        rankLeavesThePattern();
        toPartTheFirstAndTheLast();
        toPartOfNothing();
        toPartOfOneLetter();
        toPartOfAsManyAsMayBe();
        toPartOfAHundredLetters();
        toPartInPlaceOfAFullPattern();
        toPartAsTextsGrow();
        Due.end();
    }

    // ---- 21: classes

    private static void classesOfNothing() {
        Due.is("promise 21: no text", 0, new SuffixWright().classes());
        Due.is("promise 21: four empty texts", 0, Letters.of("", "", "", "").classes());
        Due.is("promise 21: a pattern alone", 0, Letters.withPattern("abc", "").classes());
        SuffixWright x = Letters.of("abc");
        x.clear();
        Due.is("promise 21: after clear", 0, x.classes());
    }

    private static void classesOfOneLetter() {
        Due.is("promise 21: one letter", 1, Letters.of("a").classes());
        Due.is("promise 21: the same in four texts", 1, Letters.of("z", "z", "z", "z").classes());
        Due.is("promise 21: others in four texts", 4, Letters.of("a", "b", "y", "z").classes());
    }

    private static void asManyClassesAsMayBe() {
        // Of the words of 100 letters this one has the most: two for each letter but the first two.
        Due.is("promise 21: as many as may be", 198, Letters.of("a" + "b".repeat(99)).classes());
        Due.is("promise 21: in the last text", 198, Letters.of("", "", "", "a" + "b".repeat(99)).classes());
        Due.is("promise 21: a hundred of one letter", 100, Letters.of("a".repeat(100)).classes());
        Due.is("promise 21: the greatest letters", 198, Letters.of("z" + "y".repeat(99)).classes());
    }

    private static void classesAsTextsGrow() {
        SuffixWright x = Letters.of("ab");
        // a, and b with ab
        Due.is("promise 21: a b", 2, x.classes());
        x.open();
        Due.is("promise 21: with an empty text", 2, x.classes());
        x.append(1, 1);
        Due.is("promise 21: b on its own", 3, x.classes());
        x.append(1, 0);
        Due.is("promise 21: ba too", 4, x.classes());
    }

    // ---- 22 and 23: longestAlike, shortestAlike

    private static void alike(String what, int shortest, int longest, SuffixWright x) {
        Due.is("promise 22: " + what, longest, x.longestAlike());
        Due.is("promise 23: " + what, shortest, x.shortestAlike());
    }

    private static void alikeOfNoPart() {
        alike("the empty pattern and no text", -1, -1, new SuffixWright());
        alike("the empty pattern and an empty text", -1, -1, Letters.of(""));
        alike("the empty pattern", -1, -1, Letters.of("abc", "abc"));
        alike("a letter and no text", -1, -1, Letters.withPattern("a"));
        alike("another letter", -1, -1, Letters.withPattern("d", "abc"));
        alike("a letter too many", -1, -1, Letters.withPattern("abcd", "abc"));
        alike("a full pattern", -1, -1, Letters.withPattern("a".repeat(120), "a".repeat(100)));
    }

    private static void alikeOfOneLetter() {
        alike("the only letter", 1, 1, Letters.withPattern("a", "a"));
        alike("the only letter of four texts", 1, 1, Letters.withPattern("z", "z", "z", "z", "z"));
        alike("the first letter", 1, 1, Letters.withPattern("a", "abc"));
        alike("the last letter", 1, 3, Letters.withPattern("c", "abc"));
    }

    private static void alikeOfAHundredLetters() {
        String letters = "a".repeat(99) + "z";
        alike("one letter of a hundred alike", 1, 100, Letters.withPattern("z", letters));
        alike("a hundred letters of a hundred alike", 1, 100, Letters.withPattern(letters, letters));
        alike("a hundred of one letter", 100, 100, Letters.withPattern("a".repeat(100), "a".repeat(100)));
        alike("ninety-nine of one letter", 99, 99, Letters.withPattern("a".repeat(99), "a".repeat(100)));
    }

    private static void alikeOfAClassOfOne() {
        SuffixWright x = Letters.of("aaa");
        for (int letters = 1; letters <= 3; letters++) {
            x.type(0);
            alike("one part in a class, of " + letters, letters, letters, x);
        }
    }

    private static void alikeAsAClassIsSplit() {
        SuffixWright x = Letters.withPattern("bc", "abc");
        alike("all that end with c", 1, 3, x);
        Letters.opened(x, "c");
        alike("c no more", 2, 3, x);
        Letters.opened(x, "bc");
        alike("abc no more", 2, 2, x);
        alike("abc on its own", 3, 3, Letters.asks(x, "abc"));
        alike("c on its own", 1, 1, Letters.asks(x, "c"));
        Due.is("promise 21: a b ab c bc abc, each on its own", 6, x.classes());
    }

    // ---- 24: parts

    private static void partsOfNothing() {
        Due.is("promise 24: no text", 0, new SuffixWright().parts());
        Due.is("promise 24: four empty texts", 0, Letters.of("", "", "", "").parts());
        Due.is("promise 24: a pattern is no text", 0, Letters.withPattern("abc", "").parts());
        SuffixWright x = Letters.of("abc");
        x.clear();
        Due.is("promise 24: after clear", 0, x.parts());
    }

    private static void partsOfOneLetter() {
        Due.is("promise 24: one letter", 1, Letters.of("a").parts());
        Due.is("promise 24: the greatest letter", 1, Letters.of("", "z").parts());
        Due.is("promise 24: a hundred of one letter", 100, Letters.of("a".repeat(100)).parts());
    }

    private static void asManyPartsAsMayBe() {
        // 26 letters, and of each length from 2 to 100 as many as there are places.
        int due = 26 + 99 * 100 / 2;
        Due.is("promise 24: as many as may be", due, Letters.of(Letters.ofDifferentPairs()).parts());
        Due.is("promise 24: in the last text", due, Letters.of("", "", "", Letters.ofDifferentPairs()).parts());
    }

    private static void partsCountOnce() {
        Due.is("promise 24: the same text four times", 15, Letters.of("banana", "banana", "banana", "banana").parts());
        Due.is("promise 24: a text in another", 15, Letters.of("nan", "banana").parts());
        Due.is("promise 24: none over two texts", 2, Letters.of("a", "b").parts());
        Due.is("promise 24: again in one text", 5, Letters.of("aba").parts());
    }

    // ---- 25: rank

    private static void ranked(String what, int due, SuffixWright x, String pattern) {
        Letters.asks(x, pattern);
        Due.is("promise 25: " + what, due, x.rank());
    }

    private static void rankOfTheEmptyPattern() {
        Due.is("promise 25: empty, and no text", 0, new SuffixWright().rank());
        Due.is("promise 25: empty, and an empty text", 0, Letters.of("").rank());
        Due.is("promise 25: empty", 0, Letters.of("banana").rank());
        ranked("emptied", 0, Letters.withPattern("n", "banana"), "");
    }

    private static void rankWithoutParts() {
        for (String pattern : new String[] {"a", "z", "z".repeat(120)}) {
            ranked("no text", 0, new SuffixWright(), pattern);
            ranked("empty texts", 0, Letters.of("", "", "", ""), pattern);
        }
    }

    private static void rankOfTheFirstAndTheLast() {
        SuffixWright x = Letters.of("banana");
        ranked("the first part", 0, x, "a");
        ranked("the second part", 1, x, "an");
        ranked("the last but one", 13, x, "nan");
        ranked("the last part", 14, x, "nana");
        SuffixWright one = Letters.of("m");
        ranked("the only part", 0, one, "m");
    }

    private static void rankAheadOfAllAndBehindAll() {
        SuffixWright x = Letters.of("mnm");
        // m mn mnm n nm
        ranked("ahead of all", 0, x, "a");
        ranked("ahead of all, long", 0, x, "lz".repeat(60));
        ranked("right ahead of the first", 0, x, "lzzz");
        ranked("right behind the first", 1, x, "ma");
        ranked("behind all with m", 3, x, "mz");
        ranked("right behind the last", 5, x, "nma");
        ranked("behind all", 5, x, "z");
        ranked("behind all, long", 5, x, "z".repeat(120));
        ranked("between m and n", 3, x, "mnmz");
        ranked("between mn and mnm", 2, x, "mnlz");
        ranked("between mnm and n", 3, x, "mnn");
    }

    private static void rankOfWhatBeginsWithAPart() {
        SuffixWright x = Letters.of("b");
        ranked("the part", 0, x, "b");
        ranked("the part and the least letter", 1, x, "ba");
        ranked("the part and the greatest letter", 1, x, "bz");
        ranked("the part twice", 1, x, "bb");
        SuffixWright same = Letters.of("a".repeat(100));
        ranked("a hundred", 99, same, "a".repeat(100));
        ranked("a hundred and one", 100, same, "a".repeat(101));
    }

    private static void rankOfWhatAPartBeginsWith() {
        SuffixWright x = Letters.of("abc");
        // a ab abc b bc c
        ranked("what abc begins with", 1, x, "ab");
        ranked("what bc begins with", 3, x, "b");
        ranked("what is another's end", 5, x, "c");
    }

    private static void rankOfAFullPattern() {
        String letters = Letters.ofDifferentPairs();
        SuffixWright x = Letters.of(letters);
        ranked("120 of the greatest letter", 26 + 99 * 100 / 2, x, "z".repeat(120));
        // a and aa come ahead, aab and those behind it do not.
        ranked("120 of the least letter", 2, x, "a".repeat(120));
    }

    private static void rankIsOverAllTexts() {
        SuffixWright x = Letters.of("b", "a", "", "ab");
        // a ab b
        ranked("a", 0, x, "a");
        ranked("ab", 1, x, "ab");
        ranked("b", 2, x, "b");
        x.append(2, 0);
        ranked("a part that comes again counts once", 2, x, "b");
        x.append(2, 0);
        ranked("and a new one counts", 3, x, "b");
    }

    private static void rankLeavesThePattern() {
        SuffixWright x = Letters.withPattern("anx", "banana");
        x.rank();
        Due.is("promise 25: all stays", Letters.everythingOf(Letters.withPattern("anx", "banana")), Letters.everythingOf(x));
    }

    // ---- 26: toPart

    private static void toPartTheFirstAndTheLast() {
        SuffixWright x = Letters.withPattern("qqq", "banana");
        Due.found("promise 26: the first", "a", x, on -> on.toPart(0));
        Due.found("promise 26: the last", "nana", x, on -> on.toPart(14));
        for (int number : Letters.outside(0, 14)) {
            Due.refused("promise 26: part " + number, INDEX, () -> Letters.withPattern("qqq", "banana"), on -> on.toPart(number));
        }
    }

    private static void toPartOfNothing() {
        for (int number : Letters.outside(0, -1)) {
            Due.refused("promise 26: part " + number + " and no text", INDEX, () -> Letters.withPattern("a"), x -> x.toPart(number));
            Due.refused("promise 26: part " + number + " and an empty text", INDEX, () -> Letters.of(""), x -> x.toPart(number));
        }
        SuffixWright x = Letters.of("abc");
        x.clear();
        Due.thrown("promise 26: after clear", INDEX, () -> x.toPart(0));
    }

    private static void toPartOfOneLetter() {
        for (String letter : new String[] {"a", "z"}) {
            SuffixWright x = Letters.of(letter, "", letter);
            Due.found("promise 26: the only part", letter, x, on -> on.toPart(0));
            Due.thrown("promise 26: no other", INDEX, () -> x.toPart(1));
        }
    }

    private static void toPartOfAsManyAsMayBe() {
        String letters = Letters.ofDifferentPairs();
        int parts = 26 + 99 * 100 / 2;
        SuffixWright x = Letters.of(letters);
        Due.found("promise 26: the first of all", "a", x, on -> on.toPart(0));
        Due.found("promise 26: the last of all", letters.substring(50), x, on -> on.toPart(parts - 1));
        Due.is("promise 26: its rank", parts - 1, x.rank());
        Due.thrown("promise 26: none behind it", INDEX, () -> x.toPart(parts));
    }

    private static void toPartOfAHundredLetters() {
        SuffixWright x = Letters.of("a".repeat(100));
        Due.found("promise 26: a hundred letters", "a".repeat(100), x, on -> on.toPart(99));
        Due.is("promise 26: it is a part", true, x.isPart());
        Due.thrown("promise 26: no more", INDEX, () -> x.toPart(100));
        Due.is("promise 26: the pattern stays", 100, x.patternLength());
        SuffixWright z = Letters.of("", "z".repeat(100));
        Due.found("promise 26: a hundred of the greatest letter", "z".repeat(100), z, on -> on.toPart(99));
    }

    private static void toPartInPlaceOfAFullPattern() {
        SuffixWright x = Letters.withPattern("q".repeat(120), "ab");
        Due.found("promise 26: in place of a full pattern", "ab", x, on -> on.toPart(1));
        Due.thrown("promise 26: nothing is left of it", INDEX, () -> x.patternAt(2));
    }

    private static void toPartAsTextsGrow() {
        SuffixWright x = Letters.of("b", "");
        Due.thrown("promise 26: one part", INDEX, () -> x.toPart(1));
        x.append(1, 0);
        Due.found("promise 26: a comes ahead", "a", x, on -> on.toPart(0));
        Due.found("promise 26: b comes behind", "b", x, on -> on.toPart(1));
        Due.thrown("promise 26: two parts", INDEX, () -> x.toPart(2));
        x.append(0, 0);
        Due.found("promise 26: three parts", "ba", x, on -> on.toPart(2));
    }
}
