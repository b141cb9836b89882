import java.util.ArrayList;
import java.util.List;
import java.util.Set;
import java.util.TreeMap;
import java.util.TreeSet;
import java.util.stream.Collectors;

/**
 * The document once more, by plain search in strings: 'a' is the letter 0.
 * Answers are made anew for each call, so that no state can be wrong but the texts.
 */
final class PlainModel {
    private static final String NO_INDEX = "throws java.lang.IndexOutOfBoundsException";
    private static final String NO_ARGUMENT = "throws java.lang.IllegalArgumentException";
    private static final String NO_STATE = "throws java.lang.IllegalStateException";

    final List<StringBuilder> texts = new ArrayList<>();
    String pattern = "";

    /** Every part with its ends, by the alphabet; made anew when a text has grown. */
    private TreeMap<String, Set<List<Integer>>> endsOfParts = new TreeMap<>();

    static PlainModel of(String... texts) {
        PlainModel model = new PlainModel();
        for (String letters : texts) {
            model.texts.add(new StringBuilder(letters));
        }
        model.findParts();
        return model;
    }

    Object answer(String call, int... a) {
        switch (call) {
            case "clear": texts.clear(); pattern = ""; findParts(); return null;
            case "open": return open();
            case "append": return append(a[0], a[1]);
            case "texts": return texts.size();
            case "length": return isText(a[0]) ? text(a[0]).length() : NO_INDEX;
            case "letterAt": return isText(a[0]) ? charOf(text(a[0]), a[1]) : NO_INDEX;
            case "type": return type(a[0]);
            case "erase": return erase();
            case "wipe": int had = pattern.length(); pattern = ""; return had;
            case "copy": return copy(a[0], a[1], a[2]);
            case "patternLength": return pattern.length();
            case "patternAt": return charOf(pattern, a[0]);
            case "isPart": return endsOfParts.containsKey(pattern);
            case "occurrences": return ends(pattern).size();
            case "occurrencesIn": return isText(a[0]) ? begins(a[0]).size() : NO_INDEX;
            case "first": return !isText(a[0]) ? NO_INDEX : begins(a[0]).isEmpty() ? -1 : begins(a[0]).first();
            case "last": return !isText(a[0]) ? NO_INDEX : begins(a[0]).isEmpty() ? -1 : begins(a[0]).last();
            case "followers": return mask(letter -> pattern + letter);
            case "leaders": return mask(letter -> letter + pattern);
            case "classes": return (int) endsOfParts.values().stream().distinct().count();
            case "longestAlike": return alike().isEmpty() ? -1 : alike().last();
            case "shortestAlike": return alike().isEmpty() ? -1 : alike().first();
            case "parts": return endsOfParts.size();
            case "rank": return pattern.isEmpty() ? 0 : endsOfParts.headMap(pattern, false).size();
            case "toPart": return toPart(a[0]);
            case "common": return common(a[0]);
            case "repeated": return repeated(a[0]);
            case "missing": return missing(a[0]);
            default: throw new IllegalArgumentException(call);
        }
    }

    private Object open() {
        if (texts.size() == 4) {
            return NO_STATE;
        }
        texts.add(new StringBuilder());
        return texts.size() - 1;
    }

    private Object append(int text, int letter) {
        if (!isText(text)) {
            return NO_INDEX;
        }
        if (!isLetter(letter)) {
            return NO_ARGUMENT;
        }
        if (texts.stream().mapToInt(StringBuilder::length).sum() == 100) {
            return NO_STATE;
        }
        texts.get(text).append((char) ('a' + letter));
        findParts();
        return text(text).length();
    }

    private Object type(int letter) {
        if (!isLetter(letter)) {
            return NO_ARGUMENT;
        }
        if (pattern.length() == 120) {
            return NO_STATE;
        }
        pattern += (char) ('a' + letter);
        return pattern.length();
    }

    private Object erase() {
        if (pattern.isEmpty()) {
            return NO_STATE;
        }
        Object letter = charOf(pattern, pattern.length() - 1);
        pattern = pattern.substring(0, pattern.length() - 1);
        return letter;
    }

    private Object copy(int text, int from, int many) {
        if (!isText(text)) {
            return NO_INDEX;
        }
        if (from < 0 || many < 0 || (long) from + many > text(text).length()) {
            return NO_ARGUMENT;
        }
        pattern = text(text).substring(from, from + many);
        return null;
    }

    private Object toPart(int number) {
        if (number < 0 || number >= endsOfParts.size()) {
            return NO_INDEX;
        }
        return take(new ArrayList<>(endsOfParts.keySet()).get(number));
    }

    private Object common(int set) {
        if (set == 0 || set < 0 || set >= 1 << texts.size()) {
            return NO_ARGUMENT;
        }
        return takeLongest(part -> {
            for (int text = 0; text < texts.size(); text++) {
                if ((set & 1 << text) != 0 && !text(text).contains(part)) {
                    return false;
                }
            }
            return true;
        });
    }

    private Object repeated(int occurrences) {
        return occurrences < 1 ? NO_ARGUMENT : takeLongest(part -> ends(part).size() >= occurrences);
    }

    private Object missing(int letters) {
        if (letters < 1 || letters > 26) {
            return NO_ARGUMENT;
        }
        // All words of a length that are parts, by the alphabet, and then a letter more.
        List<String> words = List.of("");
        while (true) {
            List<String> longer = new ArrayList<>();
            for (String word : words) {
                for (int letter = 0; letter < letters; letter++) {
                    String next = word + (char) ('a' + letter);
                    if (!endsOfParts.containsKey(next)) {
                        return take(next);
                    }
                    longer.add(next);
                }
            }
            words = longer;
        }
    }

    private interface Test {
        boolean holds(String part);
    }

    private Object takeLongest(Test test) {
        String best = "";
        for (String part : endsOfParts.keySet()) {
            if (part.length() > best.length() && test.holds(part)) {
                best = part;
            }
        }
        return take(best);
    }

    private Object take(String word) {
        pattern = word;
        return word.length();
    }

    private void findParts() {
        endsOfParts = new TreeMap<>();
        for (int text = 0; text < texts.size(); text++) {
            String letters = text(text);
            for (int from = 0; from < letters.length(); from++) {
                for (int to = from + 1; to <= letters.length(); to++) {
                    String part = letters.substring(from, to);
                    endsOfParts.computeIfAbsent(part, p -> new java.util.HashSet<>()).add(List.of(text, to - 1));
                }
            }
        }
    }

    private Set<List<Integer>> ends(String part) {
        return endsOfParts.getOrDefault(part, Set.of());
    }

    private TreeSet<Integer> begins(int text) {
        TreeSet<Integer> begins = new TreeSet<>();
        for (int from = 0; !pattern.isEmpty() && from < text(text).length(); from++) {
            if (text(text).startsWith(pattern, from)) {
                begins.add(from);
            }
        }
        return begins;
    }

    private TreeSet<Integer> alike() {
        if (!endsOfParts.containsKey(pattern)) {
            return new TreeSet<>();
        }
        return endsOfParts.keySet().stream().filter(part -> ends(part).equals(ends(pattern)))
                .map(String::length).collect(Collectors.toCollection(TreeSet::new));
    }

    private interface Joined {
        String with(char letter);
    }

    private int mask(Joined joined) {
        int mask = 0;
        for (int letter = 0; letter < 26; letter++) {
            String word = joined.with((char) ('a' + letter));
            if (texts.stream().anyMatch(text -> text.indexOf(word) >= 0)) {
                mask |= 1 << letter;
            }
        }
        return mask;
    }

    private boolean isText(int text) {
        return text >= 0 && text < texts.size();
    }

    private static boolean isLetter(int letter) {
        return letter >= 0 && letter <= 25;
    }

    private String text(int text) {
        return texts.get(text).toString();
    }

    private static Object charOf(String word, int number) {
        return number >= 0 && number < word.length() ? (Object) (word.charAt(number) - 'a') : NO_INDEX;
    }
}
