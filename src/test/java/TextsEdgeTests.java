/** The boundary cases of the promises 1 to 7: a new object, clear, and the texts. */
final class TextsEdgeTests {
    private static final Class<? extends Exception> INDEX = IndexOutOfBoundsException.class;
    private static final Class<? extends Exception> ARGUMENT = IllegalArgumentException.class;
    private static final Class<? extends Exception> STATE = IllegalStateException.class;

    private static final String NEW = "pattern  is no part, 0 in all, behind 0, ahead 0, alike -1 to -1, classes 0, parts 0, rank 0, "
            + "room for 120 typed, 4 opened, 100 appended";

    public static void main(String[] args) {
        aNewObjectHasNothing();
        aNewObjectFindsNothing();
        clearOfNothing();
        clearOfEverything();
        clearOfThePatternAlone();
        clearOfTextsAlone();
        clearAgainAndAgain();
        afterClearAllStartsAnew();
        openToTheFourth();
        openWithAllLettersThere();
        openChangesNothingElse();
        openAfterClear();
        appendToTheFirstAndTheLast();
        appendWithNoText();
        appendTheLeastAndTheGreatestLetter();
        appendReturnsWhatTheTextHas();
        appendTheLetter100();
        appendAfterARefusedOne();
        appendLeavesThePattern();
        textsFromNoneToFour();
        lengthFromNoneToAll();
        lengthOfNoText();
        letterAtBothEnds();
        letterAtOfAFullText();
        letterAtOfAnEmptyText();
        letterAtOfNoText();
        Due.end();
    }

    // ---- 1: a new object

    private static void aNewObjectHasNothing() {
        Due.is("promise 1: a new object", NEW, Letters.everythingOf(new SuffixWright()));
        SuffixWright x = new SuffixWright();
        for (int text = -1; text < 5; text++) {
            int there = text;
            Due.thrown("promise 1: no text " + text, INDEX, () -> x.length(there));
        }
        Due.thrown("promise 1: no letter of the pattern", INDEX, () -> x.patternAt(0));
        Due.thrown("promise 1: nothing to erase", STATE, x::erase);
        Due.is("promise 1: nothing to wipe", 0, x.wipe());
    }

    private static void aNewObjectFindsNothing() {
        SuffixWright x = new SuffixWright();
        Due.thrown("promise 1: no part", INDEX, () -> x.toPart(0));
        Due.thrown("promise 1: nothing in common", ARGUMENT, () -> x.common(1));
        Due.found("promise 1: nothing comes again", "", x, on -> on.repeated(1));
        Due.found("promise 1: all is missing", "a", x, on -> on.missing(26));
    }

    // ---- 2: clear

    private static void clearOfNothing() {
        SuffixWright x = new SuffixWright();
        x.clear();
        Due.is("promise 2: clear of nothing", NEW, Letters.everythingOf(x));
    }

    private static void clearOfEverything() {
        SuffixWright x = Letters.withPattern("abc".repeat(40), "ab".repeat(40), "zzzzzzzzzz", "abcdefghi", "y");
        x.clear();
        Due.is("promise 2: clear of everything", NEW, Letters.everythingOf(x));
    }

    private static void clearOfThePatternAlone() {
        SuffixWright x = Letters.withPattern("abc");
        x.clear();
        Due.is("promise 2: clear of the pattern alone", NEW, Letters.everythingOf(x));
    }

    private static void clearOfTextsAlone() {
        SuffixWright x = Letters.of("abc", "", "c");
        x.clear();
        Due.is("promise 2: clear of texts alone", NEW, Letters.everythingOf(x));
        SuffixWright y = Letters.of("", "", "", "");
        y.clear();
        Due.is("promise 2: clear of empty texts", NEW, Letters.everythingOf(y));
    }

    private static void clearAgainAndAgain() {
        SuffixWright x = Letters.of("abc");
        x.clear();
        x.clear();
        Letters.opened(x, "ab");
        x.clear();
        Due.is("promise 2: clear again", NEW, Letters.everythingOf(x));
    }

    private static void afterClearAllStartsAnew() {
        SuffixWright x = Letters.withPattern("banana", "banana", "nab");
        x.clear();
        Letters.opened(x, "nab", "an");
        Letters.typed(x, "a");
        String due = Letters.everythingOf(Letters.withPattern("a", "nab", "an"));
        Due.is("promise 2: what comes after clear", due, Letters.everythingOf(x));
        SuffixWright full = Letters.of("a".repeat(100));
        full.clear();
        Due.is("promise 2: a full object opens a first text", 0, full.open());
        Letters.appended(full, 0, "b".repeat(99));
        Due.is("promise 2: a hundred letters once more", 100, full.append(0, 0));
        Due.thrown("promise 2: and no more", STATE, () -> full.append(0, 0));
        Due.is("promise 2: the parts of them", 199, full.parts());
    }

    // ---- 3: open

    private static void openToTheFourth() {
        SuffixWright x = new SuffixWright();
        for (int text = 0; text < 4; text++) {
            int fresh = text;
            Due.thrown("promise 3: text " + text + " ahead of open", INDEX, () -> x.length(fresh));
            Due.is("promise 3: open", text, x.open());
            Due.is("promise 3: it is empty", 0, x.length(text));
        }
        Due.thrown("promise 3: open a fifth", STATE, x::open);
        Due.thrown("promise 3: open a fifth again", STATE, x::open);
        Due.refused("promise 3: a fifth", STATE, () -> Letters.withPattern("b", "ab", "b", "", "c"), SuffixWright::open);
    }

    private static void openWithAllLettersThere() {
        SuffixWright x = Letters.of("ab".repeat(50));
        for (int text = 1; text < 4; text++) {
            Due.is("promise 3: open when no letter fits any more", text, x.open());
            Due.is("promise 3: it is empty then", 0, x.length(text));
        }
        Due.thrown("promise 3: a fifth then", STATE, x::open);
    }

    private static void openChangesNothingElse() {
        SuffixWright x = Letters.withPattern("an", "banana");
        x.open();
        Due.is("promise 3: the other text", "banana", Letters.textOf(x, 0));
        Due.is("promise 3: the pattern", "an", Letters.patternOf(x));
        Due.is("promise 3: parts", 15, x.parts());
        Due.is("promise 3: classes", 9, x.classes());
        Due.is("promise 3: occurrences", 2, x.occurrences());
    }

    private static void openAfterClear() {
        SuffixWright x = Letters.of("a", "b", "c", "d");
        x.clear();
        for (int text = 0; text < 4; text++) {
            Due.is("promise 3: open after clear", text, x.open());
            Due.is("promise 3: empty after clear", 0, x.length(text));
        }
        Due.thrown("promise 3: a fifth after clear", STATE, x::open);
    }

    // ---- 4: append

    private static void appendToTheFirstAndTheLast() {
        for (int texts = 1; texts <= 4; texts++) {
            String[] empty = java.util.stream.Stream.generate(() -> "").limit(texts).toArray(String[]::new);
            SuffixWright x = Letters.of(empty);
            Due.is("promise 4: append to the first of " + texts, 1, x.append(0, 3));
            Due.is("promise 4: append to the last of " + texts, texts == 1 ? 2 : 1, x.append(texts - 1, 3));
            for (int text : Letters.outside(0, texts - 1)) {
                Due.refused("promise 4: append to " + text + " of " + texts, INDEX, () -> Letters.of(empty), on -> on.append(text, 3));
            }
        }
    }

    private static void appendWithNoText() {
        for (int text : new int[] {0, 1, 3}) {
            Due.refused("promise 4: append to " + text + " of none", INDEX, SuffixWright::new, x -> x.append(text, 0));
        }
        SuffixWright x = Letters.of("a");
        x.clear();
        Due.thrown("promise 4: append after clear", INDEX, () -> x.append(0, 0));
    }

    private static void appendTheLeastAndTheGreatestLetter() {
        SuffixWright x = Letters.of("");
        Due.is("promise 4: append 25", 1, x.append(0, 25));
        Due.is("promise 4: append 0", 2, x.append(0, 0));
        Due.is("promise 4: they stand there", "za", Letters.textOf(x, 0));
        for (int letter : Letters.outside(0, 25)) {
            Due.refused("promise 4: append " + letter, ARGUMENT, () -> Letters.withPattern("z", "za", "z"), on -> on.append(1, letter));
        }
    }

    private static void appendReturnsWhatTheTextHas() {
        SuffixWright x = Letters.of("a".repeat(50), "", "b");
        Due.is("promise 4: of a text, not of all", 1, x.append(1, 0));
        Due.is("promise 4: of the last", 2, x.append(2, 0));
        Due.is("promise 4: of the first", 51, x.append(0, 0));
    }

    private static void appendTheLetter100() {
        SuffixWright x = Letters.of("a".repeat(98), "b", "");
        Due.is("promise 4: the letter 100 of all", 1, x.append(2, 2));
        Due.thrown("promise 4: the letter 101 of all", STATE, () -> x.append(2, 2));
        for (int text = 0; text < 4; text++) {
            int there = text;
            Due.refused("promise 4: the letter 101 in " + text, STATE,
                    () -> Letters.withPattern("ab", "ab".repeat(49), "b", "a", ""), on -> on.append(there, 0));
        }
        Due.refused("promise 4: the letter 101 of one", STATE, () -> Letters.of("z".repeat(100)), on -> on.append(0, 25));
    }

    private static void appendAfterARefusedOne() {
        SuffixWright x = Letters.of("a");
        for (int many = 2; many <= 100; many++) {
            Due.thrown("promise 4: refused", ARGUMENT, () -> x.append(0, 26));
            Due.thrown("promise 4: refused", INDEX, () -> x.append(1, 0));
            Due.is("promise 4: and then one more", many, x.append(0, 1));
        }
        Due.thrown("promise 4: until all are there", STATE, () -> x.append(0, 1));
        Due.is("promise 4: refused ones are no parts", 199, x.parts());
    }

    private static void appendLeavesThePattern() {
        SuffixWright x = Letters.withPattern("qab", "");
        Letters.appended(x, 0, "qab");
        Due.is("promise 4: the pattern stays", "qab", Letters.patternOf(x));
        Due.is("promise 4: and has become a part", true, x.isPart());
    }

    // ---- 5 to 7: what texts have

    private static void textsFromNoneToFour() {
        SuffixWright x = new SuffixWright();
        for (int texts = 0; texts < 4; texts++) {
            Due.is("promise 5: texts", texts, x.texts());
            x.open();
        }
        Due.is("promise 5: four texts", 4, x.texts());
        Due.thrown("promise 5: a fifth", STATE, x::open);
        Due.is("promise 5: four texts still", 4, x.texts());
        x.append(0, 0);
        Due.is("promise 5: not letters", 4, x.texts());
        x.clear();
        Due.is("promise 5: none after clear", 0, x.texts());
    }

    private static void lengthFromNoneToAll() {
        SuffixWright x = Letters.of("", "", "");
        for (int many = 0; many < 100; many++) {
            Due.is("promise 6: length", many, x.length(2));
            x.append(2, many % 26);
        }
        Due.is("promise 6: a hundred", 100, x.length(2));
        Due.thrown("promise 6: one more", STATE, () -> x.append(2, 0));
        Due.is("promise 6: a hundred still", 100, x.length(2));
        Due.is("promise 6: none in another", 0, x.length(0));
    }

    private static void lengthOfNoText() {
        for (int texts = 0; texts <= 4; texts++) {
            SuffixWright x = new SuffixWright();
            for (int text = 0; text < texts; text++) {
                Letters.opened(x, "ab");
            }
            for (int text : Letters.outside(0, texts - 1)) {
                Due.thrown("promise 6: length of " + text + " of " + texts, INDEX, () -> x.length(text));
            }
            for (int text = 0; text < texts; text++) {
                Due.is("promise 6: length of " + text + " of " + texts, 2, x.length(text));
            }
        }
    }

    private static void letterAtBothEnds() {
        SuffixWright x = Letters.of("zbcda", "xy");
        Due.is("promise 7: the first", 25, x.letterAt(0, 0));
        Due.is("promise 7: the last", 0, x.letterAt(0, 4));
        Due.is("promise 7: the last of the shorter one", 24, x.letterAt(1, 1));
        for (int number : Letters.outside(0, 4)) {
            Due.thrown("promise 7: letter " + number, INDEX, () -> x.letterAt(0, number));
        }
        for (int number : Letters.outside(0, 1)) {
            Due.thrown("promise 7: letter " + number + " of the shorter one", INDEX, () -> x.letterAt(1, number));
        }
        Due.thrown("promise 7: one that the longer text has", INDEX, () -> x.letterAt(1, 4));
    }

    private static void letterAtOfAFullText() {
        String letters = Letters.ofDifferentPairs();
        SuffixWright x = Letters.of("", letters);
        Due.is("promise 7: all of a hundred", letters, Letters.textOf(x, 1));
        Due.is("promise 7: the letter 99", 25, x.letterAt(1, 99));
        Due.thrown("promise 7: the letter 100", INDEX, () -> x.letterAt(1, 100));
    }

    private static void letterAtOfAnEmptyText() {
        SuffixWright x = Letters.of("", "a");
        for (int number : Letters.outside(0, -1)) {
            Due.thrown("promise 7: letter " + number + " of none", INDEX, () -> x.letterAt(0, number));
        }
        SuffixWright y = Letters.of("abc");
        y.clear();
        y.open();
        Due.thrown("promise 7: the letters from before clear", INDEX, () -> y.letterAt(0, 0));
    }

    private static void letterAtOfNoText() {
        SuffixWright x = Letters.of("a", "a");
        for (int text : Letters.outside(0, 1)) {
            Due.thrown("promise 7: letter of text " + text, INDEX, () -> x.letterAt(text, 0));
            Due.thrown("promise 7: no letter of text " + text, INDEX, () -> x.letterAt(text, -1));
        }
        Due.thrown("promise 7: with no text", INDEX, () -> new SuffixWright().letterAt(0, 0));
    }
}
