/** Calls of the face by name. */
final class Calls {
    /** The questions that take nothing, and leave all as it is. */
    static final String[] PLAIN = {"texts", "patternLength", "isPart", "occurrences", "followers", "leaders", "classes",
        "longestAlike", "shortestAlike", "parts", "rank"};

    private Calls() {
    }

    /** The answer of a call; null if it has none. */
    static Object on(SuffixWright x, String call, int... a) {
        switch (call) {
            case "clear": x.clear(); return null;
            case "open": return x.open();
            case "append": return x.append(a[0], a[1]);
            case "texts": return x.texts();
            case "length": return x.length(a[0]);
            case "letterAt": return x.letterAt(a[0], a[1]);
            case "type": return x.type(a[0]);
            case "erase": return x.erase();
            case "wipe": return x.wipe();
            case "copy": x.copy(a[0], a[1], a[2]); return null;
            case "patternLength": return x.patternLength();
            case "patternAt": return x.patternAt(a[0]);
            case "isPart": return x.isPart();
            case "occurrences": return x.occurrences();
            case "occurrencesIn": return x.occurrencesIn(a[0]);
            case "first": return x.first(a[0]);
            case "last": return x.last(a[0]);
            case "followers": return x.followers();
            case "leaders": return x.leaders();
            case "classes": return x.classes();
            case "longestAlike": return x.longestAlike();
            case "shortestAlike": return x.shortestAlike();
            case "parts": return x.parts();
            case "rank": return x.rank();
            case "toPart": return x.toPart(a[0]);
            case "common": return x.common(a[0]);
            case "repeated": return x.repeated(a[0]);
            case "missing": return x.missing(a[0]);
            default: throw new IllegalArgumentException(call);
        }
    }
}
