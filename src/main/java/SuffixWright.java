/**
 * A suffix automaton over several texts that grow letter by letter, with a
 * pattern that is looked up in it.
 */
public final class SuffixWright {
    public static final int NONE = -1;

    private static final int MOST_TEXTS = 4;
    private static final int MOST_LETTERS = 100;
    private static final int MOST_TYPED = 120;
    private static final int ALPHABET = 26;

    // A letter brings one state of its own and splits at most one other;
    // the root stands there from the beginning.
    private static final int MOST_STATES = 1 + 2 * MOST_LETTERS;
    private static final int ROOT = 0;

    private final Word[] words;
    private final Word pattern;
    private final Guide guide;
    private final Automaton automaton;
    private int opened;
    private int together;

    public SuffixWright() {
        words = new Word[MOST_TEXTS];
        for (int text = 0; text < words.length; text++) {
            words[text] = new Word(MOST_LETTERS);
        }
        pattern = new Word(MOST_TYPED);
        guide = new Guide();
        automaton = guide.automaton;
        opened = 0;
        together = 0;
    }

    // ---- texts

    public void clear() {
        for (int text = 0; text < words.length; text++) {
            Word word = words[text];
            if (word != null) {
                word.empty();
            }
        }
        opened = 0;
        together = 0;
        pattern.empty();
        automaton.forget();
    }

    public int open() throws IllegalStateException {
        if (opened >= MOST_TEXTS) {
            throw new IllegalStateException("there are as many texts as there may be");
        }
        opened++;
        return opened - 1;
    }

    public int append(int text, int letter)
            throws IndexOutOfBoundsException, IllegalArgumentException, IllegalStateException {
        Word word = demandText(text);
        demandLetter(letter);
        if (together >= MOST_LETTERS) {
            throw new IllegalStateException("the texts have as many letters as they may have");
        }
        automaton.grow(text, word.size(), letter);
        word.add(letter);
        together++;
        return word.size();
    }

    public int texts() {
        return opened;
    }

    public int length(int text) throws IndexOutOfBoundsException {
        return demandText(text).size();
    }

    public int letterAt(int text, int number) throws IndexOutOfBoundsException {
        Word word = demandText(text);
        if (!within(number, word.size())) {
            throw new IndexOutOfBoundsException("the text has no such letter");
        }
        return word.letter(number);
    }

    // ---- the pattern

    public int type(int letter) throws IllegalArgumentException, IllegalStateException {
        demandLetter(letter);
        if (pattern.size() >= MOST_TYPED) {
            throw new IllegalStateException("the pattern has as many letters as it may have");
        }
        pattern.add(letter);
        return pattern.size();
    }

    public int erase() throws IllegalStateException {
        if (pattern.size() == 0) {
            throw new IllegalStateException("the pattern is empty");
        }
        int letter = pattern.letter(pattern.size() - 1);
        pattern.shorten();
        return letter;
    }

    public int wipe() {
        int had = pattern.size();
        pattern.empty();
        return had;
    }

    public void copy(int text, int from, int many)
            throws IndexOutOfBoundsException, IllegalArgumentException {
        Word word = demandText(text);
        // Not from + many: that could wrap around.
        if (from < 0 || many < 0 || many > word.size() - from) {
            throw new IllegalArgumentException("the text has no such letters");
        }
        pattern.empty();
        for (int copied = 0; copied < many; copied++) {
            pattern.add(word.letter(from + copied));
        }
    }

    public int patternLength() {
        return pattern.size();
    }

    public int patternAt(int number) throws IndexOutOfBoundsException {
        if (!within(number, pattern.size())) {
            throw new IndexOutOfBoundsException("the pattern has no such letter");
        }
        return pattern.letter(number);
    }

    // ---- the places of the pattern

    public boolean isPart() {
        return partState() != NONE;
    }

    public int occurrences() {
        return automaton.ends.countInAll(partState());
    }

    public int occurrencesIn(int text) throws IndexOutOfBoundsException {
        demandText(text);
        return automaton.ends.countOf(partState(), text);
    }

    public int first(int text) throws IndexOutOfBoundsException {
        demandText(text);
        return beginOfPattern(automaton.ends.firstOf(partState(), text));
    }

    public int last(int text) throws IndexOutOfBoundsException {
        demandText(text);
        return beginOfPattern(automaton.ends.lastOf(partState(), text));
    }

    public int followers() {
        int state = walkPattern(ROOT);
        int mask = 0;
        for (int letter = 0; letter < ALPHABET; letter++) {
            if (automaton.step(state, letter) != NONE) {
                mask |= 1 << letter;
            }
        }
        return mask;
    }

    public int leaders() {
        int mask = 0;
        for (int letter = 0; letter < ALPHABET; letter++) {
            if (walkPattern(automaton.step(ROOT, letter)) != NONE) {
                mask |= 1 << letter;
            }
        }
        return mask;
    }

    // ---- classes

    public int classes() {
        // The root has no part, and so it is no class.
        return automaton.stateCount() - 1;
    }

    public int longestAlike() {
        int state = partState();
        return state == NONE ? NONE : automaton.longestOf(state);
    }

    public int shortestAlike() {
        int state = partState();
        return state == NONE ? NONE : automaton.shortestOf(state);
    }

    // ---- the order of parts

    public int parts() {
        return automaton.partCount();
    }

    public int rank() {
        guide.countWords();
        return guide.partsAheadOf(pattern);
    }

    public int toPart(int number) throws IndexOutOfBoundsException {
        if (!within(number, automaton.partCount())) {
            throw new IndexOutOfBoundsException("there is no such part");
        }
        guide.countWords();
        guide.spellPart(number, pattern);
        return pattern.size();
    }

    // ---- what is found becomes the pattern

    public int common(int set) throws IllegalArgumentException {
        if (set < 1 || set >= 1 << opened) {
            throw new IllegalArgumentException("the set has no text, or one that is not there");
        }
        guide.measureReach(set, 1);
        guide.spellWay(pattern);
        return pattern.size();
    }

    public int repeated(int occurrences) throws IllegalArgumentException {
        if (occurrences < 1) {
            throw new IllegalArgumentException("occurrences are 1 or more");
        }
        guide.measureReach(0, occurrences);
        guide.spellWay(pattern);
        return pattern.size();
    }

    public int missing(int letters) throws IllegalArgumentException {
        if (letters < 1 || letters > ALPHABET) {
            throw new IllegalArgumentException("a word may have 1 to 26 letters");
        }
        guide.measureGaps(letters);
        guide.spellWay(pattern);
        return pattern.size();
    }

    // ---- inside

    private static boolean within(int index, int bound) {
        return index >= 0 && index < bound;
    }

    private Word demandText(int text) throws IndexOutOfBoundsException {
        Word word = within(text, opened) && text < words.length ? words[text] : null;
        if (word == null) {
            throw new IndexOutOfBoundsException("there is no such text");
        }
        return word;
    }

    private static void demandLetter(int letter) throws IllegalArgumentException {
        if (!within(letter, ALPHABET)) {
            throw new IllegalArgumentException("a letter is 0 to 25");
        }
    }

    /** The state to which the pattern leads from another one; NONE if it leads to none. */
    private int walkPattern(int from) {
        int state = from;
        for (int number = 0; number < pattern.size() && state != NONE; number++) {
            state = automaton.step(state, pattern.letter(number));
        }
        return state;
    }

    /** The state of the pattern; NONE if it is no part. */
    private int partState() {
        return pattern.size() == 0 ? NONE : walkPattern(ROOT);
    }

    private int beginOfPattern(int end) {
        return end == NONE ? NONE : end - pattern.size() + 1;
    }

    /** Letters one behind the other, as many as there is room for. */
    private static final class Word {
        private final int[] letters;
        private int size;

        Word(int room) {
            letters = new int[Math.max(room, 0)];
            size = 0;
        }

        int size() {
            return size;
        }

        /** A letter; NONE if there is no such one. */
        int letter(int number) {
            return within(number, size) && number < letters.length ? letters[number] : NONE;
        }

        void add(int letter) {
            if (within(size, letters.length) && within(letter, ALPHABET)) {
                letters[size] = letter;
                size++;
            }
        }

        void shorten() {
            if (size > 0) {
                size--;
            }
        }

        void empty() {
            size = 0;
        }
    }

    /** How often the parts of each state end in each text, and at which letter first and last. */
    private static final class Ends {
        private final int[] counts;
        private final int[] firsts;
        private final int[] lasts;

        Ends() {
            counts = new int[MOST_STATES * MOST_TEXTS];
            firsts = new int[MOST_STATES * MOST_TEXTS];
            lasts = new int[MOST_STATES * MOST_TEXTS];
        }

        int countOf(int state, int text) {
            int place = placeOf(state, text);
            return place == NONE ? 0 : counts[place];
        }

        int firstOf(int state, int text) {
            int place = placeOf(state, text);
            return place == NONE ? NONE : firsts[place];
        }

        int lastOf(int state, int text) {
            int place = placeOf(state, text);
            return place == NONE ? NONE : lasts[place];
        }

        int countInAll(int state) {
            int count = 0;
            for (int text = 0; text < MOST_TEXTS; text++) {
                count += countOf(state, text);
            }
            return count;
        }

        /** Tells whether the parts of a state stand in each text of a set. */
        boolean standInEach(int state, int set) {
            for (int text = 0; text < MOST_TEXTS; text++) {
                boolean asked = (set >> text & 1) == 1;
                if (asked && countOf(state, text) == 0) {
                    return false;
                }
            }
            return true;
        }

        /** Notes an end behind all that the text has had before. */
        void note(int state, int text, int number) {
            int place = placeOf(state, text);
            if (place == NONE) {
                return;
            }
            if (counts[place] == 0) {
                firsts[place] = number;
            }
            lasts[place] = number;
            counts[place]++;
        }

        /** Gives a state the ends of another one, or none if that is NONE. */
        void takeOver(int state, int from) {
            for (int text = 0; text < MOST_TEXTS; text++) {
                int place = placeOf(state, text);
                int other = placeOf(from, text);
                if (place != NONE) {
                    counts[place] = other == NONE ? 0 : counts[other];
                    firsts[place] = other == NONE ? NONE : firsts[other];
                    lasts[place] = other == NONE ? NONE : lasts[other];
                }
            }
        }

        /** Where the rows have a state and a text; NONE if there is no such place. */
        private static int placeOf(int state, int text) {
            boolean there = state >= 0 && state < MOST_STATES && text >= 0 && text < MOST_TEXTS;
            return there ? state * MOST_TEXTS + text : NONE;
        }
    }

    /**
     * The states: each one has all parts that are alike, the root has the empty word.
     * A step leads from the parts of a state to those with a letter more behind them;
     * a link leads from a state to the one of the longest ends that its parts have
     * and that are not alike with them.
     */
    private static final class Automaton {
        final Ends ends;
        private final int[] steps;
        private final int[] longest;
        private final int[] links;
        private final int[] byLength;
        private final int[] wholes;
        private int states;

        Automaton() {
            ends = new Ends();
            steps = new int[MOST_STATES * ALPHABET];
            longest = new int[MOST_STATES];
            links = new int[MOST_STATES];
            byLength = new int[MOST_STATES];
            wholes = new int[MOST_TEXTS];
            forget();
        }

        void forget() {
            states = 0;
            addState(0, NONE);
            for (int text = 0; text < wholes.length; text++) {
                wholes[text] = ROOT;
            }
        }

        int stateCount() {
            return states;
        }

        /** A state by its place in the order of lengths, in which each step leads to a later one. */
        int stateAt(int place) {
            return within(place, states) && place < byLength.length ? byLength[place] : NONE;
        }

        int partCount() {
            int count = 0;
            for (int state = ROOT + 1; state < states; state++) {
                count += longestOf(state) - shortestOf(state) + 1;
            }
            return count;
        }

        int longestOf(int state) {
            return state >= 0 && state < MOST_STATES ? longest[state] : 0;
        }

        int shortestOf(int state) {
            return longestOf(linkOf(state)) + 1;
        }

        int step(int state, int letter) {
            boolean there = state >= 0 && state < MOST_STATES && letter >= 0 && letter < ALPHABET;
            return there ? steps[state * ALPHABET + letter] : NONE;
        }

        /** Takes up all parts that end with a new letter of a text. */
        void grow(int text, int number, int letter) {
            if (!within(text, wholes.length)) {
                return;
            }
            int whole = extend(wholes[text], letter);
            wholes[text] = whole;
            int state = whole;
            for (int hops = 0; hops < MOST_STATES && state > ROOT; hops++) {
                ends.note(state, text, number);
                state = linkOf(state);
            }
        }

        /** The state of a whole text with a letter more behind it. */
        private int extend(int whole, int letter) {
            if (step(whole, letter) != NONE) {
                return stateBehind(whole, letter);
            }
            int fresh = addState(longestOf(whole) + 1, NONE);
            int state = whole;
            for (int hops = 0; hops < MOST_STATES; hops++) {
                if (state == NONE || step(state, letter) != NONE) {
                    break;
                }
                putStep(state, letter, fresh);
                state = linkOf(state);
            }
            putLink(fresh, state == NONE ? ROOT : stateBehind(state, letter));
            return fresh;
        }

        /**
         * The state whose longest part is that of another one with a letter more behind
         * it. Where longer parts share its state, it and its ends move out of there.
         */
        private int stateBehind(int from, int letter) {
            int target = step(from, letter);
            int length = longestOf(from) + 1;
            if (longestOf(target) == length) {
                return target;
            }
            int taken = addState(length, target);
            putLink(taken, linkOf(target));
            putLink(target, taken);
            int state = from;
            for (int hops = 0; hops < MOST_STATES && step(state, letter) == target; hops++) {
                putStep(state, letter, taken);
                state = linkOf(state);
            }
            return taken;
        }

        /** A new state, with the steps and the ends of another one, or none if that is NONE. */
        private int addState(int length, int model) {
            int state = states;
            if (!within(state, longest.length)) {
                return NONE;
            }
            longest[state] = length;
            putLink(state, NONE);
            for (int letter = 0; letter < ALPHABET; letter++) {
                putStep(state, letter, step(model, letter));
            }
            ends.takeOver(state, model);
            sortIn(state);
            states++;
            return state;
        }

        /** Puts a new state among the older ones, which stand by length already. */
        private void sortIn(int state) {
            int place = state;
            if (!within(place, byLength.length)) {
                return;
            }
            while (place > 0 && longestOf(byLength[place - 1]) > longestOf(state)) {
                byLength[place] = byLength[place - 1];
                place--;
            }
            byLength[place] = state;
        }

        private int linkOf(int state) {
            return within(state, links.length) ? links[state] : NONE;
        }

        private void putLink(int state, int target) {
            if (within(state, links.length)) {
                links[state] = target;
            }
        }

        private void putStep(int state, int letter, int target) {
            boolean there = state >= 0 && state < MOST_STATES && letter >= 0 && letter < ALPHABET;
            if (there) {
                steps[state * ALPHABET + letter] = target;
            }
        }
    }

    /**
     * Finds words in the automaton: first it measures what lies ahead of each state,
     * then it spells a word by that, letter by letter from the root.
     */
    private static final class Guide {
        final Automaton automaton;
        private final int[] ahead;
        private int outside;

        Guide() {
            automaton = new Automaton();
            ahead = new int[MOST_STATES];
            outside = 0;
        }

        /** Ahead of a state: how many words lead on from it, the empty one among them. */
        void countWords() {
            outside = 0;
            for (int place = automaton.stateCount() - 1; place >= 0; place--) {
                int state = automaton.stateAt(place);
                int count = 1;
                for (int letter = 0; letter < ALPHABET; letter++) {
                    count += aheadOf(automaton.step(state, letter));
                }
                putAhead(state, count);
            }
        }

        /**
         * Ahead of a state: how many letters lead on from it at most, over parts alone that
         * stand in each text of a set, and so often in all; NONE if its own parts do not.
         */
        void measureReach(int set, int often) {
            outside = NONE;
            for (int place = automaton.stateCount() - 1; place >= 0; place--) {
                int state = automaton.stateAt(place);
                int most = NONE;
                for (int letter = 0; letter < ALPHABET; letter++) {
                    most = Math.max(most, aheadOf(automaton.step(state, letter)));
                }
                putAhead(state, suits(state, set, often) ? most + 1 : NONE);
            }
        }

        /** Ahead of a state: how few of the lesser letters lead on to a word that is no part. */
        void measureGaps(int letters) {
            outside = 0;
            for (int place = automaton.stateCount() - 1; place >= 0; place--) {
                int state = automaton.stateAt(place);
                int least = MOST_LETTERS;
                for (int letter = 0; letter < letters; letter++) {
                    least = Math.min(least, aheadOf(automaton.step(state, letter)));
                }
                putAhead(state, least + 1);
            }
        }

        /** How many parts come ahead of a word, as counted. */
        int partsAheadOf(Word word) {
            int count = 0;
            int state = ROOT;
            int size = word == null ? 0 : word.size();
            for (int number = 0; number < size && state != NONE; number++) {
                int letter = word.letter(number);
                for (int lesser = 0; lesser < letter; lesser++) {
                    count += aheadOf(automaton.step(state, lesser));
                }
                state = automaton.step(state, letter);
                // A part that the word begins with comes ahead of it, the word itself does not.
                if (state != NONE && number < size - 1) {
                    count++;
                }
            }
            return count;
        }

        /** Spells the part that has so many ahead of it, as counted. */
        void spellPart(int number, Word word) {
            if (word == null) {
                return;
            }
            word.empty();
            int state = ROOT;
            int left = number;
            for (int spelled = 0; spelled < MOST_LETTERS && left >= 0 && state != NONE; spelled++) {
                int letter = 0;
                int those = aheadOf(automaton.step(state, letter));
                while (letter < ALPHABET && those <= left) {
                    left -= those;
                    letter++;
                    those = aheadOf(automaton.step(state, letter));
                }
                word.add(letter);
                state = automaton.step(state, letter);
                left--;
            }
        }

        /** Spells the first word by the alphabet that leads on from the root as far as measured. */
        void spellWay(Word word) {
            if (word == null) {
                return;
            }
            word.empty();
            int state = ROOT;
            for (int left = aheadOf(ROOT) - 1; left >= 0; left--) {
                int letter = 0;
                while (letter < ALPHABET && aheadOf(automaton.step(state, letter)) != left) {
                    letter++;
                }
                word.add(letter);
                state = automaton.step(state, letter);
            }
        }

        private boolean suits(int state, int set, int often) {
            return state == ROOT
                    || automaton.ends.standInEach(state, set) && automaton.ends.countInAll(state) >= often;
        }

        private int aheadOf(int state) {
            return within(state, ahead.length) ? ahead[state] : outside;
        }

        private void putAhead(int state, int value) {
            if (within(state, ahead.length)) {
                ahead[state] = value;
            }
        }
    }
}
