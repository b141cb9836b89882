/** The boundary cases of the promises 14 to 20: the places of the pattern. */
final class PlacesEdgeTests {
    private static final Class<? extends Exception> INDEX = IndexOutOfBoundsException.class;
    private static final int ALL = (1 << 26) - 1;

    public static void main(String[] args) {
        isPartOfNothing();
        isPartOfOneLetter();
        isPartOfAWholeText();
        isPartWithOneWrongLetter();
        isPartAsTextsGrow();
        occurrencesOfTheEmptyPattern();
        occurrencesOfNoPart();
        occurrencesFromOneToAHundred();
        occurrencesInAllTexts();
        occurrencesAsTextsGrow();
        occurrencesInEachText();
        occurrencesInWithoutAny();
        noSuchText();
        firstAndLastAtBothEnds();
        firstAndLastOfOne();
        firstAndLastOfAWholeText();
        firstAndLastOfNone();
        firstAndLastOfOverlappingOnes();
        firstStaysAndLastMoves();
        followersOfTheEmptyPattern();
        followersFromTheLeastToTheGreatest();
        followersOfATextsEnd();
        followersOfNoPart();
        followersStandInTheSameText();
        leadersOfTheEmptyPattern();
        leadersFromTheLeastToTheGreatest();
        leadersOfATextsBegin();
        leadersOfNoPart();
        leadersStandInTheSameText();
        leadersDifferWithinAClass();
        aQuestionChangesNothing();
        Due.end();
    }

    private static void places(String what, SuffixWright x, int many, int first, int last) {
        Due.is(what + ": occurrences", many, x.occurrences());
        Due.is(what + ": occurrencesIn", many, x.occurrencesIn(0));
        Due.is(what + ": first", first, x.first(0));
        Due.is(what + ": last", last, x.last(0));
        Due.is(what + ": isPart", many > 0, x.isPart());
    }

    // ---- 14: isPart

    private static void isPartOfNothing() {
        Due.is("promise 14: the empty pattern and no text", false, new SuffixWright().isPart());
        Due.is("promise 14: the empty pattern and empty texts", false, Letters.of("", "").isPart());
        Due.is("promise 14: the empty pattern and texts", false, Letters.of("ab", "a").isPart());
        Due.is("promise 14: the empty pattern and full texts", false, Letters.of("a".repeat(100)).isPart());
        Due.is("promise 14: a letter and no text", false, Letters.withPattern("a").isPart());
        Due.is("promise 14: a letter and empty texts", false, Letters.withPattern("a", "", "", "", "").isPart());
        SuffixWright x = Letters.withPattern("a", "a");
        x.erase();
        Due.is("promise 14: the pattern emptied", false, x.isPart());
    }

    private static void isPartOfOneLetter() {
        for (String letter : new String[] {"a", "z"}) {
            Due.is("promise 14: the only letter", true, Letters.withPattern(letter, letter).isPart());
            Due.is("promise 14: the only letter of the last text", true, Letters.withPattern(letter, "", "", "", letter).isPart());
            Due.is("promise 14: another letter", false, Letters.withPattern(letter, "bcdy").isPart());
        }
    }

    private static void isPartOfAWholeText() {
        String letters = Letters.ofDifferentPairs();
        SuffixWright x = Letters.withPattern(letters, letters);
        Due.is("promise 14: a whole text of a hundred", true, x.isPart());
        x.type(0);
        Due.is("promise 14: one letter more than the text", false, x.isPart());
        SuffixWright same = Letters.withPattern("a".repeat(100), "a".repeat(100));
        Due.is("promise 14: a hundred of one letter", true, same.isPart());
        same.type(0);
        Due.is("promise 14: a hundred and one", false, same.isPart());
        Letters.typed(same, "a".repeat(19));
        Due.is("promise 14: a hundred and twenty", false, same.isPart());
    }

    private static void isPartWithOneWrongLetter() {
        SuffixWright x = Letters.of("abcde", "xbcdx");
        for (String word : new String[] {"abcde", "bcd", "xbcdx", "de", "xb"}) {
            Due.is("promise 14: " + word, true, Letters.asks(x, word).isPart());
        }
        for (String word : new String[] {"bbcde", "abcdd", "abxde", "abcdx", "xbcde", "ex", "ax"}) {
            Due.is("promise 14: " + word, false, Letters.asks(x, word).isPart());
        }
    }

    private static void isPartAsTextsGrow() {
        SuffixWright x = Letters.withPattern("bab", "ba", "b");
        Due.is("promise 14: one letter is missing", false, x.isPart());
        x.append(1, 1);
        Due.is("promise 14: and comes elsewhere", false, x.isPart());
        x.append(0, 1);
        Due.is("promise 14: and comes", true, x.isPart());
        x.append(0, 0);
        Due.is("promise 14: and another behind it", true, x.isPart());
    }

    // ---- 15 and 16: occurrences, occurrencesIn

    private static void occurrencesOfTheEmptyPattern() {
        Due.is("promise 15: the empty pattern and no text", 0, new SuffixWright().occurrences());
        SuffixWright x = Letters.of("aab", "");
        Due.is("promise 15: the empty pattern", 0, x.occurrences());
        Due.is("promise 16: the empty pattern", 0, x.occurrencesIn(0));
        Due.is("promise 16: the empty pattern and an empty text", 0, x.occurrencesIn(1));
    }

    private static void occurrencesOfNoPart() {
        Due.is("promise 15: no text", 0, Letters.withPattern("a").occurrences());
        SuffixWright x = Letters.withPattern("c", "ab", "ab");
        Due.is("promise 15: no part", 0, x.occurrences());
        Due.is("promise 16: no part", 0, x.occurrencesIn(0));
        Due.is("promise 16: no part in the last", 0, x.occurrencesIn(1));
        Letters.asks(x, "abc");
        Due.is("promise 15: a part and a letter", 0, x.occurrences());
        Letters.asks(x, "ab".repeat(60));
        Due.is("promise 15: a full pattern", 0, x.occurrences());
        Due.is("promise 16: a full pattern", 0, x.occurrencesIn(0));
    }

    private static void occurrencesFromOneToAHundred() {
        SuffixWright x = Letters.of("a".repeat(100));
        for (int many = 1; many <= 50; many++) {
            x.type(0);
            Due.is("promise 15: " + many + " of a hundred", 101 - many, x.occurrences());
            Due.is("promise 16: " + many + " of a hundred", 101 - many, x.occurrencesIn(0));
        }
        x.copy(0, 0, 100);
        places("promise 15: all hundred", x, 1, 0, 0);
        x.type(0);
        places("promise 15: one more", x, 0, -1, -1);
    }

    private static void occurrencesInAllTexts() {
        SuffixWright x = Letters.withPattern("z", "z".repeat(25), "z".repeat(25), "z".repeat(25), "z".repeat(25));
        Due.is("promise 15: a hundred in four texts", 100, x.occurrences());
        Due.is("promise 16: a fourth of them", 25, x.occurrencesIn(3));
        Letters.asks(x, "z".repeat(25));
        Due.is("promise 15: one in each", 4, x.occurrences());
        x.type(25);
        Due.is("promise 15: none goes on in the next text", 0, x.occurrences());
    }

    private static void occurrencesAsTextsGrow() {
        SuffixWright x = Letters.withPattern("ab", "", "");
        for (int many = 1; many <= 10; many++) {
            x.append(many % 2, 0);
            Due.is("promise 15: with the first letter", many - 1, x.occurrences());
            x.append(many % 2, 1);
            Due.is("promise 15: with both", many, x.occurrences());
            Due.is("promise 16: with both", (many + 1) / 2, x.occurrencesIn(1));
            Due.is("promise 16: in the other", many / 2, x.occurrencesIn(0));
        }
    }

    private static void occurrencesInEachText() {
        SuffixWright x = Letters.withPattern("an", "banana", "xan", "", "na");
        Due.is("promise 16: in the first", 2, x.occurrencesIn(0));
        Due.is("promise 16: in the second", 1, x.occurrencesIn(1));
        Due.is("promise 16: in an empty one", 0, x.occurrencesIn(2));
        Due.is("promise 16: in one without it", 0, x.occurrencesIn(3));
        Due.is("promise 15: in all", 3, x.occurrences());
    }

    private static void occurrencesInWithoutAny() {
        SuffixWright x = Letters.withPattern("b", "a", "b");
        Due.is("promise 16: a part, and not here", 0, x.occurrencesIn(0));
        Due.is("promise 16: a part, and here", 1, x.occurrencesIn(1));
    }

    // ---- 16 to 18: no such text

    private static void noSuchText() {
        for (int texts = 0; texts <= 4; texts++) {
            for (String pattern : new String[] {"", "a", "ab", "z"}) {
                SuffixWright x = new SuffixWright();
                for (int text = 0; text < texts; text++) {
                    Letters.opened(x, "ab");
                }
                Letters.typed(x, pattern);
                for (int text : Letters.outside(0, texts - 1)) {
                    String what = text + " of " + texts + " for " + pattern;
                    Due.thrown("promise 16: " + what, INDEX, () -> x.occurrencesIn(text));
                    Due.thrown("promise 17: " + what, INDEX, () -> x.first(text));
                    Due.thrown("promise 18: " + what, INDEX, () -> x.last(text));
                }
                Due.is("promise 16: the pattern stays", pattern, Letters.patternOf(x));
            }
        }
        for (int text : Letters.outside(0, 0)) {
            Due.Making making = () -> Letters.withPattern("b", "ab");
            Due.refused("promise 16: " + text, INDEX, making, x -> x.occurrencesIn(text));
            Due.refused("promise 17: " + text, INDEX, making, x -> x.first(text));
            Due.refused("promise 18: " + text, INDEX, making, x -> x.last(text));
        }
    }

    // ---- 17 and 18: first, last

    private static void firstAndLastAtBothEnds() {
        String letters = "z" + "a".repeat(98) + "z";
        SuffixWright x = Letters.withPattern("z", letters);
        places("promise 17: at both ends", x, 2, 0, 99);
        places("promise 17: right behind the begin", Letters.asks(x, "a"), 98, 1, 98);
        places("promise 17: two at the begin", Letters.asks(x, "za"), 1, 0, 0);
        places("promise 18: two at the end", Letters.asks(x, "az"), 1, 98, 98);
    }

    private static void firstAndLastOfOne() {
        SuffixWright x = Letters.withPattern("c", "abcde", "c");
        Due.is("promise 17: one", 2, x.first(0));
        Due.is("promise 18: one", 2, x.last(0));
        Due.is("promise 17: one letter in all", 0, x.first(1));
        Due.is("promise 18: one letter in all", 0, x.last(1));
        // All of one class, with one end, and each from another letter on.
        for (int from = 0; from < 3; from++) {
            x.copy(0, from, 5 - from);
            Due.is("promise 17: from " + from, from, x.first(0));
            Due.is("promise 18: from " + from, from, x.last(0));
        }
    }

    private static void firstAndLastOfAWholeText() {
        SuffixWright x = Letters.of("", Letters.ofDifferentPairs());
        x.copy(1, 0, 100);
        Due.is("promise 17: the whole text", 0, x.first(1));
        Due.is("promise 18: the whole text", 0, x.last(1));
        Due.is("promise 17: not in the empty one", -1, x.first(0));
        Due.is("promise 18: not in the empty one", -1, x.last(0));
        x.type(0);
        Due.is("promise 17: one letter more", -1, x.first(1));
        Due.is("promise 18: one letter more", -1, x.last(1));
    }

    private static void firstAndLastOfNone() {
        SuffixWright x = Letters.of("ab", "cd", "");
        String[] patterns = {"", "cd", "c", "e", "abc", "abcd", "ab".repeat(60)};
        for (String pattern : patterns) {
            Letters.asks(x, pattern);
            Due.is("promise 17: of " + pattern, -1, x.first(0));
            Due.is("promise 18: of " + pattern, -1, x.last(0));
            Due.is("promise 17: in an empty text, of " + pattern, -1, x.first(2));
            Due.is("promise 18: in an empty text, of " + pattern, -1, x.last(2));
        }
        Letters.asks(x, "");
        Due.is("promise 17: the empty pattern in the other", -1, x.first(1));
        Due.is("promise 18: the empty pattern in the other", -1, x.last(1));
    }

    private static void firstAndLastOfOverlappingOnes() {
        SuffixWright x = Letters.of("a".repeat(100));
        for (int many : new int[] {1, 2, 50, 99, 100}) {
            x.copy(0, 0, many);
            places("promise 18: " + many + " of a hundred", x, 101 - many, 0, 100 - many);
        }
    }

    private static void firstStaysAndLastMoves() {
        SuffixWright x = Letters.withPattern("ab", "xab");
        for (int many = 1; many <= 10; many++) {
            Due.is("promise 17: first stays", 1, x.first(0));
            Due.is("promise 18: last moves", 2 * many - 1, x.last(0));
            Letters.appended(x, 0, "ab");
        }
    }

    // ---- 19: followers

    private static void followersOfTheEmptyPattern() {
        Due.is("promise 19: no text", 0, new SuffixWright().followers());
        Due.is("promise 19: empty texts", 0, Letters.of("", "").followers());
        Due.is("promise 19: one letter", 1, Letters.of("a").followers());
        Due.is("promise 19: the greatest letter", 1 << 25, Letters.of("", "z").followers());
        Due.is("promise 19: letters of all texts", Letters.mask("abyz"), Letters.of("ab", "", "z", "y").followers());
        Due.is("promise 19: all letters", ALL, Letters.of(Letters.ALPHABET).followers());
        SuffixWright x = Letters.withPattern("b", "ab");
        x.wipe();
        Due.is("promise 19: the pattern emptied", Letters.mask("ab"), x.followers());
    }

    private static void followersFromTheLeastToTheGreatest() {
        SuffixWright x = Letters.withPattern("q", "qaqz");
        Due.is("promise 19: the least and the greatest", 1 | 1 << 25, x.followers());
        Due.is("promise 19: all letters behind one", ALL, Letters.withPattern("a", Letters.ofDifferentPairs()).followers());
        Due.is("promise 19: itself", Letters.mask("q"), Letters.withPattern("q", "qq").followers());
    }

    private static void followersOfATextsEnd() {
        SuffixWright x = Letters.withPattern("abc", "abc");
        Due.is("promise 19: a whole text", 0, x.followers());
        Due.is("promise 19: at the end alone", 0, Letters.asks(x, "c").followers());
        x.append(0, 3);
        Due.is("promise 19: no more at the end", Letters.mask("d"), x.followers());
        Letters.appended(x, 0, "c");
        Due.is("promise 19: at the end too", Letters.mask("d"), x.followers());
        Due.is("promise 19: a hundred letters", 0, Letters.withPattern("a".repeat(100), "a".repeat(100)).followers());
    }

    private static void followersOfNoPart() {
        SuffixWright x = Letters.withPattern("ac", "abc");
        Due.is("promise 19: no part", 0, x.followers());
        Due.is("promise 19: no part with one", 0, Letters.asks(x, "xa").followers());
        Due.is("promise 19: a full pattern", 0, Letters.asks(x, "a".repeat(120)).followers());
        Due.is("promise 19: a pattern and no text", 0, Letters.withPattern("a").followers());
    }

    private static void followersStandInTheSameText() {
        SuffixWright x = Letters.withPattern("a", "ba", "cd");
        Due.is("promise 19: not in the next text", 0, x.followers());
        x.append(1, 0);
        x.append(1, 25);
        Due.is("promise 19: in another text with an occurrence", 1 << 25, x.followers());
        x.append(0, 4);
        Due.is("promise 19: in both", Letters.mask("ez"), x.followers());
    }

    // ---- 20: leaders

    private static void leadersOfTheEmptyPattern() {
        Due.is("promise 20: no text", 0, new SuffixWright().leaders());
        Due.is("promise 20: empty texts", 0, Letters.of("", "").leaders());
        Due.is("promise 20: one letter", 1, Letters.of("a").leaders());
        Due.is("promise 20: the greatest letter", 1 << 25, Letters.of("", "z").leaders());
        Due.is("promise 20: letters of all texts", Letters.mask("abyz"), Letters.of("ab", "", "z", "y").leaders());
        Due.is("promise 20: all letters", ALL, Letters.of(Letters.ALPHABET).leaders());
        SuffixWright x = Letters.withPattern("b", "ab");
        x.wipe();
        Due.is("promise 20: the pattern emptied", Letters.mask("ab"), x.leaders());
    }

    private static void leadersFromTheLeastToTheGreatest() {
        SuffixWright x = Letters.withPattern("q", "aqzq");
        Due.is("promise 20: the least and the greatest", 1 | 1 << 25, x.leaders());
        String backwards = new StringBuilder(Letters.ofDifferentPairs()).reverse().toString();
        Due.is("promise 20: all letters ahead of one", ALL, Letters.withPattern("a", backwards).leaders());
        Due.is("promise 20: itself", Letters.mask("q"), Letters.withPattern("q", "qq").leaders());
    }

    private static void leadersOfATextsBegin() {
        SuffixWright x = Letters.withPattern("abc", "abc");
        Due.is("promise 20: a whole text", 0, x.leaders());
        Due.is("promise 20: at the begin alone", 0, Letters.asks(x, "a").leaders());
        Letters.appended(x, 0, "a");
        Due.is("promise 20: at the begin too", Letters.mask("c"), x.leaders());
        Due.is("promise 20: a hundred letters", 0, Letters.withPattern("a".repeat(100), "a".repeat(100)).leaders());
        Due.is("promise 20: ninety-nine letters", 1, Letters.withPattern("a".repeat(99), "a".repeat(100)).leaders());
    }

    private static void leadersOfNoPart() {
        SuffixWright x = Letters.withPattern("ac", "abc");
        Due.is("promise 20: no part", 0, x.leaders());
        Due.is("promise 20: no part with one", 0, Letters.asks(x, "bcx").leaders());
        Due.is("promise 20: a full pattern", 0, Letters.asks(x, "c".repeat(120)).leaders());
        Due.is("promise 20: a pattern and no text", 0, Letters.withPattern("a").leaders());
    }

    private static void leadersStandInTheSameText() {
        SuffixWright x = Letters.withPattern("a", "cd", "ab");
        Due.is("promise 20: not in the text ahead", 0, x.leaders());
        Letters.appended(x, 0, "a");
        Due.is("promise 20: in another text with an occurrence", Letters.mask("d"), x.leaders());
        Letters.appended(x, 1, "za");
        Due.is("promise 20: in both", Letters.mask("dz"), x.leaders());
    }

    private static void leadersDifferWithinAClass() {
        SuffixWright x = Letters.withPattern("c", "xabc", "yabc");
        Due.is("promise 20: of the shortest of a class", Letters.mask("b"), x.leaders());
        Due.is("promise 20: of the one between", Letters.mask("a"), Letters.asks(x, "bc").leaders());
        Due.is("promise 20: of the longest", Letters.mask("xy"), Letters.asks(x, "abc").leaders());
    }

    private static void aQuestionChangesNothing() {
        Due.Making making = () -> Letters.withPattern("an", "banana", "nab");
        SuffixWright x = making.make();
        x.isPart();
        x.occurrences();
        x.occurrencesIn(1);
        x.first(1);
        x.last(0);
        x.followers();
        x.leaders();
        Due.is("promises 14 to 20: texts and pattern stay", Letters.everythingOf(making.make()), Letters.everythingOf(x));
    }
}
