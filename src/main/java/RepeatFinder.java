public final class RepeatFinder {
    public static final int FULL = -1;
    public static final int BAD = -2;
    public static final int NONE = -3;

    private static final int TEXT_ROOM = 24;
    private static final int PROBE_ROOM = 12;
    private static final int PROBE_START = TEXT_ROOM;
    private static final int ALL_ROOM = TEXT_ROOM + PROBE_ROOM;
    private static final int GREATEST_LETTER = 3;
    private static final int PLACE_WEIGHT = 25;

    // Text and probe share one array, so that a word of either one is told
    // by the same two numbers: where it starts in the array, and its length.
    private final int[] letters = new int[ALL_ROOM];
    private int textLength = 0;
    private int probeLength = 0;

    public RepeatFinder() {
    }

    public int type(int letter) {
        if (textLength >= TEXT_ROOM) {
            return FULL;
        }
        if (!isLetter(letter)) {
            return BAD;
        }
        letters[textLength] = letter;
        textLength++;
        return textLength;
    }

    public int shift() {
        if (textLength <= 0) {
            return BAD;
        }
        for (int place = 1; place < textLength; place++) {
            letters[place - 1] = letters[place];
        }
        textLength--;
        return textLength;
    }

    public int ask(int letter) {
        if (probeLength >= PROBE_ROOM) {
            return FULL;
        }
        if (!isLetter(letter)) {
            return BAD;
        }
        letters[PROBE_START + probeLength] = letter;
        probeLength++;
        return probeLength;
    }

    public int wipe() {
        int had = probeLength;
        probeLength = 0;
        return had;
    }

    public int count() {
        if (probeLength == 0) {
            return NONE;
        }
        return countOf(PROBE_START, probeLength);
    }

    public int place() {
        if (probeLength == 0) {
            return NONE;
        }
        return firstPlaceOf(PROBE_START, probeLength);
    }

    public int words() {
        int found = 0;
        for (int place = 0; place < textLength; place++) {
            for (int length = 1; length <= textLength - place; length++) {
                if (isFirstOfItsWord(place, length)) {
                    found++;
                }
            }
        }
        return found;
    }

    public int longest(int times) {
        if (times < 1 || times > TEXT_ROOM) {
            return BAD;
        }
        for (int length = textLength; length >= 1; length--) {
            for (int place = 0; place <= textLength - length; place++) {
                if (countOf(place, length) >= times) {
                    return length;
                }
            }
        }
        return 0;
    }

    public int repeats() {
        int found = 0;
        for (int place = 0; place < textLength; place++) {
            for (int length = 1; length <= textLength - place; length++) {
                if (isFirstOfItsWord(place, length) && isMaximalRepeat(place, length)) {
                    found++;
                }
            }
        }
        return found;
    }

    public int word(int k) {
        if (k < 0 || k >= words()) {
            return NONE;
        }
        // The empty word at place 0: it comes before every word of the text.
        int current = 0;
        for (int step = 0; step <= k; step++) {
            current = wordAfter(current / PLACE_WEIGHT, current % PLACE_WEIGHT);
        }
        return current;
    }

    public int rank() {
        if (probeLength == 0) {
            return NONE;
        }
        int before = 0;
        for (int place = 0; place < textLength; place++) {
            for (int length = 1; length <= textLength - place; length++) {
                if (comesBefore(place, length, PROBE_START, probeLength)
                        && isFirstOfItsWord(place, length)) {
                    before++;
                }
            }
        }
        return before;
    }

    public int common() {
        for (int length = probeLength; length >= 1; length--) {
            for (int from = 0; from <= probeLength - length; from++) {
                if (firstPlaceOf(PROBE_START + from, length) != NONE) {
                    return length;
                }
            }
        }
        return 0;
    }

    public int unique(int p) {
        if (p < 0 || p >= textLength) {
            return BAD;
        }
        for (int length = 1; length <= textLength - p; length++) {
            if (countOf(p, length) == 1) {
                return length;
            }
        }
        return NONE;
    }

    private boolean isLetter(int letter) {
        return letter >= 0 && letter <= GREATEST_LETTER;
    }

    private boolean occursAt(int place, int start, int length) {
        if (length > textLength - place) {
            return false;
        }
        for (int i = 0; i < length; i++) {
            if (letters[place + i] != letters[start + i]) {
                return false;
            }
        }
        return true;
    }

    private int countOf(int start, int length) {
        int found = 0;
        for (int place = 0; place < textLength; place++) {
            if (occursAt(place, start, length)) {
                found++;
            }
        }
        return found;
    }

    private int firstPlaceOf(int start, int length) {
        for (int place = 0; place < textLength; place++) {
            if (occursAt(place, start, length)) {
                return place;
            }
        }
        return NONE;
    }

    // A word that occurs at several places is counted at its first one alone.
    private boolean isFirstOfItsWord(int place, int length) {
        return firstPlaceOf(place, length) == place;
    }

    // A longer word with the same count must occur around every place of this
    // one, so only the two words around the given place need to be looked at.
    private boolean isMaximalRepeat(int place, int length) {
        int times = countOf(place, length);
        if (times < 2) {
            return false;
        }
        if (place > 0 && countOf(place - 1, length + 1) == times) {
            return false;
        }
        return place + length >= textLength || countOf(place, length + 1) < times;
    }

    private boolean comesBefore(int start, int length, int otherStart, int otherLength) {
        int shared = length < otherLength ? length : otherLength;
        for (int i = 0; i < shared; i++) {
            if (letters[start + i] != letters[otherStart + i]) {
                return letters[start + i] < letters[otherStart + i];
            }
        }
        return length < otherLength;
    }

    // Places are tried from the smallest up and a later equal word does not
    // replace the best one, so the answer bears the word's smallest place.
    private int wordAfter(int start, int length) {
        int bestPlace = 0;
        int bestLength = 0;
        for (int place = 0; place < textLength; place++) {
            for (int tried = 1; tried <= textLength - place; tried++) {
                if (comesBefore(start, length, place, tried)
                        && (bestLength == 0 || comesBefore(place, tried, bestPlace, bestLength))) {
                    bestPlace = place;
                    bestLength = tried;
                }
            }
        }
        return PLACE_WEIGHT * bestPlace + bestLength;
    }
}
