public final class ZoneLookup {
    public static final int FOUND = 1;
    public static final int NO_DATA = 2;
    public static final int NO_NAME = 3;
    public static final int HANDED = 4;
    public static final int LOOP = 5;

    private static final int FIRST_SORT = 1;
    private static final int ALIAS = 3;
    private static final int HAND_OVER = 4;

    private static final int STAR = 7;
    private static final int LABEL_MASK = 7;
    private static final int BASE = 9;
    private static final int EMPTY_NAME = 0;

    private static final int MAX_LABELS = 4;
    private static final int MAX_ENTRIES = 24;
    private static final int MAX_DATA = 3;
    private static final int MAX_ROUNDS = 5;

    private static final int NONE = -1;

    // Names are held as their numbers: in base 9 every label is a digit from 1 to 8,
    // so dividing by 9 takes the last label off and no two names share a number.
    private int key;

    private final int[] entryNames = new int[MAX_ENTRIES];
    private final int[] entrySorts = new int[MAX_ENTRIES];
    private final int[] entryValues = new int[MAX_ENTRIES];
    private int held;

    // What the last lookup gave; every call that needs them looks up anew.
    private int lastAnswer;
    private int lastPlace;
    private int lastRounds;

    public ZoneLookup() {
        key = EMPTY_NAME;
        held = 0;
    }

    public int label(int label) {
        int count = labelCount(key);
        if (count >= MAX_LABELS) {
            return -1;
        }
        key = withLabel(key, label & LABEL_MASK);
        return count + 1;
    }

    public int back() {
        if (key == EMPTY_NAME) {
            return -1;
        }
        int last = key % BASE - 1;
        key = withoutLast(key);
        return last;
    }

    public void erase() {
        key = EMPTY_NAME;
    }

    public int number() {
        return key;
    }

    public int add(int sort, int value) {
        if (!isSort(sort) || held >= MAX_ENTRIES) {
            return -1;
        }
        if (sort == ALIAS && !isNumberOfName(value)) {
            return -1;
        }
        if (countEntries(key, sort) >= mostEntries(sort) || findEntry(key, sort, value) != NONE) {
            return -1;
        }
        entryNames[held] = key;
        entrySorts[held] = sort;
        entryValues[held] = value;
        held++;
        return held;
    }

    public int remove(int sort, int value) {
        int gone = findEntry(key, sort, value);
        if (gone == NONE) {
            return -1;
        }
        // No answer depends on the order of the entries, so the last one may fill the gap.
        held--;
        entryNames[gone] = entryNames[held];
        entrySorts[gone] = entrySorts[held];
        entryValues[gone] = entryValues[held];
        return held;
    }

    public int exists() {
        return nameExists(key) ? 1 : 0;
    }

    public int look(int sort) {
        if (!isSort(sort)) {
            return -1;
        }
        lookUp(sort);
        return lastAnswer;
    }

    public int place(int sort) {
        if (!isSort(sort)) {
            return -1;
        }
        lookUp(sort);
        return lastPlace;
    }

    public int rounds(int sort) {
        if (!isSort(sort)) {
            return -1;
        }
        lookUp(sort);
        return lastRounds;
    }

    public int value(int sort, int index) {
        if (!isSort(sort)) {
            return 0;
        }
        lookUp(sort);
        if (lastAnswer == FOUND) {
            return rankedValue(lastPlace, sort, index);
        }
        if (lastAnswer == HANDED) {
            return rankedValue(lastPlace, HAND_OVER, index);
        }
        return 0;
    }

    private void lookUp(int sort) {
        int asked = key;
        for (int round = 1; round <= MAX_ROUNDS; round++) {
            lastRounds = round;
            int handOver = sort == HAND_OVER ? NONE : shortestHandOver(asked);
            if (handOver != NONE) {
                endLookup(HANDED, handOver);
                return;
            }
            int match = matchFor(asked);
            if (match == NONE) {
                endLookup(NO_NAME, asked);
                return;
            }
            int alias = sort == ALIAS ? NONE : findSort(match, ALIAS);
            if (alias == NONE) {
                int answer = findSort(match, sort) == NONE ? NO_DATA : FOUND;
                endLookup(answer, match);
                return;
            }
            if (round == MAX_ROUNDS) {
                endLookup(LOOP, asked);
                return;
            }
            asked = entryValues[alias];
        }
    }

    private void endLookup(int answer, int place) {
        lastAnswer = answer;
        lastPlace = place;
    }

    private int shortestHandOver(int name) {
        int shortest = NONE;
        int upper = name;
        for (int step = 0; step < MAX_LABELS && upper != EMPTY_NAME; step++) {
            if (findSort(upper, HAND_OVER) != NONE) {
                shortest = upper;
            }
            upper = withoutLast(upper);
        }
        return shortest;
    }

    private int matchFor(int name) {
        if (nameExists(name)) {
            return name;
        }
        int upper = withoutLast(name);
        // The empty name always exists, so the walk up ends there at the latest.
        for (int step = 0; step < MAX_LABELS && !nameExists(upper); step++) {
            upper = withoutLast(upper);
        }
        int star = withLabel(upper, STAR);
        return nameExists(star) ? star : NONE;
    }

    private boolean nameExists(int name) {
        if (name == EMPTY_NAME) {
            return true;
        }
        for (int i = 0; i < held; i++) {
            if (isSameOrAbove(name, entryNames[i])) {
                return true;
            }
        }
        return false;
    }

    private int findSort(int name, int sort) {
        for (int i = 0; i < held; i++) {
            if (entryNames[i] == name && entrySorts[i] == sort) {
                return i;
            }
        }
        return NONE;
    }

    private int findEntry(int name, int sort, int value) {
        for (int i = 0; i < held; i++) {
            if (entryNames[i] == name && entrySorts[i] == sort && entryValues[i] == value) {
                return i;
            }
        }
        return NONE;
    }

    private int countEntries(int name, int sort) {
        int count = 0;
        for (int i = 0; i < held; i++) {
            if (entryNames[i] == name && entrySorts[i] == sort) {
                count++;
            }
        }
        return count;
    }

    private int countLesser(int name, int sort, int value) {
        int count = 0;
        for (int i = 0; i < held; i++) {
            if (entryNames[i] == name && entrySorts[i] == sort && entryValues[i] < value) {
                count++;
            }
        }
        return count;
    }

    private int rankedValue(int name, int sort, int index) {
        for (int i = 0; i < held; i++) {
            if (entryNames[i] == name && entrySorts[i] == sort) {
                int lesser = countLesser(name, sort, entryValues[i]);
                if (lesser == index) {
                    return entryValues[i];
                }
            }
        }
        return 0;
    }

    private static boolean isSort(int sort) {
        return sort >= FIRST_SORT && sort <= HAND_OVER;
    }

    private static int mostEntries(int sort) {
        return sort == ALIAS || sort == HAND_OVER ? 1 : MAX_DATA;
    }

    private static int withLabel(int name, int label) {
        return name * BASE + label + 1;
    }

    private static int withoutLast(int name) {
        return name / BASE;
    }

    private static int labelCount(int name) {
        int count = 0;
        int rest = name;
        for (int step = 0; step < MAX_LABELS && rest != EMPTY_NAME; step++) {
            rest = withoutLast(rest);
            count++;
        }
        return count;
    }

    private static boolean isSameOrAbove(int upper, int lower) {
        int name = lower;
        for (int step = 0; step < MAX_LABELS; step++) {
            if (name == upper) {
                return true;
            }
            name = withoutLast(name);
        }
        return name == upper;
    }

    private static boolean isNumberOfName(int number) {
        int rest = number;
        for (int step = 0; step < MAX_LABELS && rest != EMPTY_NAME; step++) {
            // The digit 0 stands for no label; a negative number has no such digits at all.
            if (rest % BASE <= 0) {
                return false;
            }
            rest = withoutLast(rest);
        }
        return rest == EMPTY_NAME;
    }
}
