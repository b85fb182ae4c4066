/** Zones that several tests begin with; the key is set afterwards, where it matters. */
final class Zones {
    static final int LOW = Integer.MIN_VALUE;
    static final int HIGH = Integer.MAX_VALUE;

    private Zones() {
    }

    /** Entries of every sort, for names of every length, and every answer of look. */
    static void mixed(ZoneLookup x) {
        Due.put(x, 1, 100, 1, 2);
        Due.put(x, 1, 50, 1, 2);
        Due.put(x, 2, 77, 1, 2);
        Due.put(x, 1, 999, 1, 7);
        Due.put(x, 3, Due.numberOf(1, 2), 2);
        Due.put(x, 3, Due.numberOf(4), 4);
        Due.put(x, 4, 77, 3);
        Due.put(x, 1, LOW, 3, 1);
        Due.put(x, 2, 5, 1, 2, 3, 4);
        Due.put(x, 4, 9);
        Due.put(x, 1, 0);
    }

    /** 24 entries, of every sort, so that nothing more is taken in. */
    static void full(ZoneLookup x) {
        for (int label = 0; label < 3; label++) {
            fullName(x, label);
        }
    }

    /** The 8 entries that one name may have. */
    static void fullName(ZoneLookup x, int... labels) {
        Due.key(x, labels);
        for (int sort = 1; sort <= 2; sort++) {
            x.add(sort, 1);
            x.add(sort, 2);
            x.add(sort, 3);
        }
        x.add(3, 1);
        x.add(4, 1);
    }

    /** Aliases for the labels from 0 on, each to the next; the last one is to the label count. */
    static void chain(ZoneLookup x, int count) {
        for (int label = 0; label < count; label++) {
            Due.put(x, 3, Due.numberOf(label + 1), label);
        }
    }
}
