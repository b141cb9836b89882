/** The boundary cases of the promises 8 to 13: what is typed, erased, wiped, copied and read of the pattern. */
final class PatternEdgeTests {
    private static final Class<? extends Exception> INDEX = IndexOutOfBoundsException.class;
    private static final Class<? extends Exception> ARGUMENT = IllegalArgumentException.class;
    private static final Class<? extends Exception> STATE = IllegalStateException.class;

    public static void main(String[] args) {
        typeTheLeastAndTheGreatestLetter();
        typeTheLetter120();
        typeBehindAHundredCopied();
        typeBehindWhatWasFound();
        typeAgainAfterErase();
        typeWithWrongLettersBetween();
        eraseNothing();
        eraseTheOnlyLetter();
        eraseOfAFullPattern();
        eraseTheLastAlone();
        wipeNothing();
        wipeOneAndAll();
        wipeLeavesTexts();
        copyAllAndNone();
        copyAtBothEnds();
        copyAHundred();
        copyTooFar();
        copyBelowNought();
        copyThatWrapsAround();
        copyOfAnEmptyText();
        copyOfNoText();
        copyInPlaceOfAFullPattern();
        patternLengthAfterEachCall();
        patternAtBothEnds();
        patternAtOfNone();
        patternAtOfAFullPattern();
        patternAtBehindAnErasedOne();
        Due.end();
    }

    // ---- 8: type

    private static void typeTheLeastAndTheGreatestLetter() {
        SuffixWright x = new SuffixWright();
        Due.is("promise 8: type 25", 1, x.type(25));
        Due.is("promise 8: type 0", 2, x.type(0));
        Due.is("promise 8: the pattern", "za", Letters.patternOf(x));
        for (int letter : Letters.outside(0, 25)) {
            Due.refused("promise 8: type " + letter, ARGUMENT, () -> Letters.withPattern("za", "zab"), on -> on.type(letter));
            Due.refused("promise 8: type " + letter + " first", ARGUMENT, SuffixWright::new, on -> on.type(letter));
        }
    }

    private static void typeTheLetter120() {
        SuffixWright x = Letters.withPattern("ab".repeat(59) + "a", "ab");
        Due.is("promise 8: the letter 120", 120, x.type(25));
        Due.thrown("promise 8: the letter 121", STATE, () -> x.type(25));
        for (int letter : new int[] {0, 1, 25}) {
            Due.refused("promise 8: the letter 121", STATE, () -> Letters.withPattern("ab".repeat(60), "ab"), on -> on.type(letter));
        }
        for (int letter : Letters.outside(0, 25)) {
            Due.refused("promise 8: the letter 121, wrong", ARGUMENT, () -> Letters.withPattern("ab".repeat(60)), on -> on.type(letter));
        }
    }

    private static void typeBehindAHundredCopied() {
        SuffixWright x = Letters.of("ab".repeat(50));
        x.copy(0, 0, 100);
        for (int many = 101; many <= 120; many++) {
            Due.is("promise 8: behind a hundred copied", many, x.type(2));
        }
        Due.thrown("promise 8: no more behind them", STATE, () -> x.type(2));
        Due.is("promise 8: all of them", "ab".repeat(50) + "c".repeat(20), Letters.patternOf(x));
    }

    private static void typeBehindWhatWasFound() {
        SuffixWright x = Letters.of("a".repeat(100));
        Due.is("promise 8: found are", 101, x.missing(1));
        Due.is("promise 8: behind what was found", 102, x.type(1));
        Due.is("promise 8: both", "a".repeat(101) + "b", Letters.patternOf(x));
    }

    private static void typeAgainAfterErase() {
        SuffixWright x = Letters.withPattern("a".repeat(120));
        Due.is("promise 8: the last is erased", 0, x.erase());
        Due.is("promise 8: and another is typed", 120, x.type(7));
        Due.thrown("promise 8: and no more", STATE, () -> x.type(7));
        Due.is("promise 8: the other stands there", 7, x.patternAt(119));
    }

    private static void typeWithWrongLettersBetween() {
        SuffixWright x = new SuffixWright();
        for (int many = 1; many <= 120; many++) {
            Due.thrown("promise 8: a wrong letter", ARGUMENT, () -> x.type(26));
            Due.is("promise 8: and a right one", many, x.type(1));
        }
    }

    // ---- 9: erase

    private static void eraseNothing() {
        Due.refused("promise 9: of a new object", STATE, SuffixWright::new, SuffixWright::erase);
        Due.refused("promise 9: with texts", STATE, () -> Letters.of("ab"), SuffixWright::erase);
        Due.refused("promise 9: after wipe", STATE, () -> Letters.asks(Letters.withPattern("a"), ""), SuffixWright::erase);
        SuffixWright cleared = Letters.withPattern("a");
        cleared.clear();
        Due.thrown("promise 9: after clear", STATE, cleared::erase);
        SuffixWright x = Letters.withPattern("b", "a");
        x.copy(0, 1, 0);
        Due.thrown("promise 9: none copied", STATE, x::erase);
        Due.is("promise 9: none comes twice", 0, x.repeated(2));
        Due.thrown("promise 9: none found", STATE, x::erase);
    }

    private static void eraseTheOnlyLetter() {
        for (int letter : new int[] {0, 25}) {
            SuffixWright x = new SuffixWright();
            x.type(letter);
            Due.is("promise 9: the only letter", letter, x.erase());
            Due.is("promise 9: none is left", 0, x.patternLength());
            Due.thrown("promise 9: no more", STATE, x::erase);
        }
    }

    private static void eraseOfAFullPattern() {
        SuffixWright x = Letters.withPattern("ab".repeat(60));
        for (int left = 119; left >= 0; left--) {
            Due.is("promise 9: the letter " + left, left % 2, x.erase());
            Due.is("promise 9: letters left", left, x.patternLength());
        }
        Due.thrown("promise 9: below none", STATE, x::erase);
    }

    private static void eraseTheLastAlone() {
        SuffixWright x = Letters.of("banana");
        x.copy(0, 0, 6);
        x.erase();
        Due.is("promise 9: the others stay", "banan", Letters.patternOf(x));
        Due.is("promise 9: the text stays", "banana", Letters.textOf(x, 0));
    }

    // ---- 10: wipe

    private static void wipeNothing() {
        SuffixWright x = new SuffixWright();
        Due.is("promise 10: of a new object", 0, x.wipe());
        Due.is("promise 10: once more", 0, x.wipe());
        Due.is("promise 10: it is empty", 0, x.patternLength());
    }

    private static void wipeOneAndAll() {
        for (int many : new int[] {1, 2, 119, 120}) {
            SuffixWright x = Letters.withPattern("a".repeat(many), "a");
            Due.is("promise 10: of " + many, many, x.wipe());
            Due.is("promise 10: it is empty", "", Letters.patternOf(x));
            Due.is("promise 10: it is no part", false, x.isPart());
            Due.is("promise 10: it had none then", 0, x.wipe());
            Due.is("promise 10: one typed", 1, x.type(3));
        }
    }

    private static void wipeLeavesTexts() {
        SuffixWright x = Letters.withPattern("an", "banana", "b");
        x.wipe();
        Due.is("promise 10: like one with no pattern", Letters.everythingOf(Letters.of("banana", "b")), Letters.everythingOf(x));
    }

    // ---- 11: copy

    private static void copyAllAndNone() {
        SuffixWright x = Letters.withPattern("qq", "banana", "nab");
        x.copy(0, 0, 6);
        Due.is("promise 11: all of the first", "banana", Letters.patternOf(x));
        x.copy(1, 0, 3);
        Due.is("promise 11: all of the last", "nab", Letters.patternOf(x));
        for (int from = 0; from <= 3; from++) {
            Letters.asks(x, "qq");
            x.copy(1, from, 0);
            Due.is("promise 11: none from " + from, "", Letters.patternOf(x));
        }
    }

    private static void copyAtBothEnds() {
        SuffixWright x = Letters.of("abcde");
        x.copy(0, 0, 1);
        Due.is("promise 11: the first letter", "a", Letters.patternOf(x));
        x.copy(0, 4, 1);
        Due.is("promise 11: the last letter", "e", Letters.patternOf(x));
        x.copy(0, 1, 4);
        Due.is("promise 11: all but the first", "bcde", Letters.patternOf(x));
        x.copy(0, 0, 4);
        Due.is("promise 11: all but the last", "abcd", Letters.patternOf(x));
    }

    private static void copyAHundred() {
        String letters = Letters.ofDifferentPairs();
        SuffixWright x = Letters.of("", letters);
        x.copy(1, 0, 100);
        Due.is("promise 11: a hundred", letters, Letters.patternOf(x));
        x.copy(1, 99, 1);
        Due.is("promise 11: the letter 99", "z", Letters.patternOf(x));
        x.copy(1, 100, 0);
        Due.is("promise 11: none behind a hundred", "", Letters.patternOf(x));
        int[][] wrong = {{0, 101}, {1, 100}, {99, 2}, {100, 1}, {101, 0}, {101, -1}, {50, 51}};
        for (int[] each : wrong) {
            Due.thrown("promise 11: " + each[1] + " from " + each[0], ARGUMENT, () -> Letters.copied(x, 1, each[0], each[1]));
        }
    }

    private static void copyTooFar() {
        int[][] wrong = {{0, 4}, {1, 3}, {2, 2}, {3, 1}, {4, 0}, {4, 1}, {5, 0}, {120, 0}, {0, 100}, {0, 120}, {256, 0}, {0, 256}};
        for (int[] each : wrong) {
            copyRefused(each[0], each[1]);
        }
    }

    private static void copyBelowNought() {
        int[][] wrong = {{-1, 0}, {-1, 1}, {-1, 2}, {-1, 4}, {0, -1}, {1, -1}, {3, -1}, {4, -1}, {-1, -1}, {-3, 3}, {3, -3},
            {Integer.MIN_VALUE, 0}, {0, Integer.MIN_VALUE}, {Integer.MIN_VALUE, 1}, {1, Integer.MIN_VALUE}};
        for (int[] each : wrong) {
            copyRefused(each[0], each[1]);
        }
    }

    private static void copyThatWrapsAround() {
        int least = Integer.MIN_VALUE;
        int greatest = Integer.MAX_VALUE;
        int[][] wrong = {{greatest, 0}, {0, greatest}, {greatest, 1}, {1, greatest}, {greatest, greatest}, {greatest, 3},
            {3, greatest}, {least, least}, {least, greatest}, {greatest, least}, {1 << 30, 1 << 30}, {greatest - 1, 2}};
        for (int[] each : wrong) {
            copyRefused(each[0], each[1]);
        }
    }

    private static void copyRefused(int from, int many) {
        Due.refused("promise 11: copy " + many + " from " + from, ARGUMENT,
                () -> Letters.withPattern("zz", "abc", "abcdef"), x -> Letters.copied(x, 0, from, many));
    }

    private static void copyOfAnEmptyText() {
        SuffixWright x = Letters.withPattern("zz", "abc", "");
        for (int[] each : new int[][] {{0, 1}, {1, 0}, {-1, 1}, {-1, 0}, {0, -1}, {1, -1}}) {
            Due.thrown("promise 11: of an empty text", ARGUMENT, () -> Letters.copied(x, 1, each[0], each[1]));
        }
        Due.is("promise 11: nothing has changed", "zz", Letters.patternOf(x));
        x.copy(1, 0, 0);
        Due.is("promise 11: none of an empty text", "", Letters.patternOf(x));
    }

    private static void copyOfNoText() {
        for (int text : Letters.outside(0, 1)) {
            for (int[] each : new int[][] {{0, 0}, {0, 1}, {-1, 0}, {0, 4}}) {
                Due.refused("promise 11: copy of text " + text, INDEX,
                        () -> Letters.withPattern("zz", "abc", "a"), x -> Letters.copied(x, text, each[0], each[1]));
            }
        }
        Due.refused("promise 11: with no text", INDEX, () -> Letters.withPattern("zz"), x -> Letters.copied(x, 0, 0, 0));
    }

    private static void copyInPlaceOfAFullPattern() {
        SuffixWright x = Letters.withPattern("q".repeat(120), "abc");
        x.copy(0, 1, 2);
        Due.is("promise 11: in place of a full pattern", "bc", Letters.patternOf(x));
        Due.thrown("promise 11: nothing is left of it", INDEX, () -> x.patternAt(2));
        Letters.asks(x, "q".repeat(120));
        x.copy(0, 3, 0);
        Due.is("promise 11: none in place of a full pattern", 0, x.patternLength());
    }

    // ---- 12 and 13: patternLength, patternAt

    private static void patternLengthAfterEachCall() {
        SuffixWright x = Letters.of("banana", "ban");
        Due.is("promise 12: none", 0, x.patternLength());
        for (int many = 1; many <= 120; many++) {
            x.type(0);
            Due.is("promise 12: typed", many, x.patternLength());
        }
        Due.thrown("promise 12: no more", STATE, () -> x.type(0));
        Due.is("promise 12: as many as may be", 120, x.patternLength());
        x.erase();
        Due.is("promise 12: erased", 119, x.patternLength());
        x.copy(0, 1, 4);
        Due.is("promise 12: copied", 4, x.patternLength());
        x.toPart(0);
        Due.is("promise 12: a part", 1, x.patternLength());
        x.common(3);
        Due.is("promise 12: in common", 3, x.patternLength());
        x.repeated(3);
        Due.is("promise 12: repeated", 2, x.patternLength());
        x.missing(26);
        Due.is("promise 12: missing", 1, x.patternLength());
        x.wipe();
        Due.is("promise 12: wiped", 0, x.patternLength());
        x.type(1);
        x.clear();
        Due.is("promise 12: cleared", 0, x.patternLength());
    }

    private static void patternAtBothEnds() {
        SuffixWright x = Letters.withPattern("zba", "abcdef");
        Due.is("promise 13: the first", 25, x.patternAt(0));
        Due.is("promise 13: the last", 0, x.patternAt(2));
        for (int number : Letters.outside(0, 2)) {
            Due.refused("promise 13: the letter " + number, INDEX, () -> Letters.withPattern("zba", "abcdef"), on -> on.patternAt(number));
        }
    }

    private static void patternAtOfNone() {
        for (int number : Letters.outside(0, -1)) {
            Due.refused("promise 13: the letter " + number + " of none", INDEX, () -> Letters.of("abc"), x -> x.patternAt(number));
        }
    }

    private static void patternAtOfAFullPattern() {
        SuffixWright x = Letters.withPattern("abcde".repeat(24));
        for (int number = 0; number < 120; number++) {
            Due.is("promise 13: the letter " + number, number % 5, x.patternAt(number));
        }
        Due.thrown("promise 13: the letter 120", INDEX, () -> x.patternAt(120));
        Due.thrown("promise 13: the letter -1", INDEX, () -> x.patternAt(-1));
    }

    private static void patternAtBehindAnErasedOne() {
        SuffixWright x = Letters.withPattern("abc");
        x.erase();
        Due.thrown("promise 13: an erased one", INDEX, () -> x.patternAt(2));
        Due.is("promise 13: the one ahead of it", 1, x.patternAt(1));
        x.wipe();
        Due.thrown("promise 13: a wiped one", INDEX, () -> x.patternAt(0));
    }
}
