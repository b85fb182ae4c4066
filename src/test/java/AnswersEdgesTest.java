/** The edges that promises 9 to 12 name, each sentence with a test of its own. */
public final class AnswersEdgesTest {
    private static final int LOW = Zones.LOW;
    private static final int HIGH = Zones.HIGH;

    // Names of Zones.mixed for which sort 1 gives FOUND, NO_DATA, NO_NAME, HANDED and LOOP, in this order.
    private static final int[][] KEYS = {{1, 2}, {1}, {5}, {3, 1}, {4}};
    private static final int[] PLACES = {Due.numberOf(1, 2), 2, 6, 4, 5};
    private static final int[] ROUNDS = {1, 1, 1, 1, 5};

    public static void main(String[] args) {
        answers();
        lookAtAWrongSort();
        placeOfAWrongSort();
        roundsOfAWrongSort();
        roundsFromOneToFive();
        valueFound();
        valueHanded();
        valueInAllOtherCases();
        valueOfAWrongIndex();
        Due.end();
    }

    private static Refused.Steps mixedAt(int... key) {
        return x -> {
            Zones.mixed(x);
            Due.key(x, key);
        };
    }

    private static void answers() {
        Due.sentence("Looks the sort up for the key.");
        Due.due("FOUND", ZoneLookup.FOUND, 1);
        Due.due("NO_DATA", ZoneLookup.NO_DATA, 2);
        Due.due("NO_NAME", ZoneLookup.NO_NAME, 3);
        Due.due("HANDED", ZoneLookup.HANDED, 4);
        Due.due("LOOP", ZoneLookup.LOOP, 5);
        for (int i = 0; i < KEYS.length; i++) {
            Refused.due("look(1)", mixedAt(KEYS[i]), x -> x.look(1), i + 1);
            Refused.due("place(1)", mixedAt(KEYS[i]), x -> x.place(1), PLACES[i]);
            Refused.due("rounds(1)", mixedAt(KEYS[i]), x -> x.rounds(1), ROUNDS[i]);
        }
    }

    private static void lookAtAWrongSort() {
        Due.sentence("Answers FOUND, NO_DATA, NO_NAME, HANDED or LOOP; -1 if sort is not from 1 to 4.");
        for (int sort : Refused.WRONG_SORTS) {
            for (int[] key : KEYS) {
                Refused.due("look(" + sort + ")", mixedAt(key), x -> x.look(sort), -1);
            }
            Due.due("new: look(" + sort + ")", new ZoneLookup().look(sort), -1);
        }
        for (int sort = 1; sort <= 4; sort++) {
            Due.due("look(" + sort + ")", new ZoneLookup().look(sort), ZoneLookup.NO_DATA);
        }
    }

    private static void placeOfAWrongSort() {
        Due.sentence("The number of the place that looking the sort up for the key gives; -1 if sort is not from 1 to 4.");
        for (int sort : Refused.WRONG_SORTS) {
            for (int[] key : KEYS) {
                Refused.due("place(" + sort + ")", mixedAt(key), x -> x.place(sort), -1);
            }
            Due.due("new: place(" + sort + ")", new ZoneLookup().place(sort), -1);
        }
        for (int sort = 1; sort <= 4; sort++) {
            Due.due("place(" + sort + ")", new ZoneLookup().place(sort), 0);
        }
    }

    private static void roundsOfAWrongSort() {
        Due.sentence("How many rounds the lookup takes; -1 if sort is not from 1 to 4.");
        for (int sort : Refused.WRONG_SORTS) {
            for (int[] key : KEYS) {
                Refused.due("rounds(" + sort + ")", mixedAt(key), x -> x.rounds(sort), -1);
            }
            Due.due("new: rounds(" + sort + ")", new ZoneLookup().rounds(sort), -1);
        }
        for (int sort = 1; sort <= 4; sort++) {
            Due.due("rounds(" + sort + ")", new ZoneLookup().rounds(sort), 1);
        }
    }

    private static void roundsFromOneToFive() {
        Due.sentence("How many rounds the lookup takes");
        for (int count = 0; count <= 6; count++) {
            ZoneLookup x = new ZoneLookup();
            Zones.chain(x, count);
            Due.key(x, 0);
            Due.due(count + " aliases: rounds(1)", x.rounds(1), count < 5 ? count + 1 : 5);
            Due.due(count + " aliases: rounds(3)", x.rounds(3), 1);
            Due.due(count + " aliases: rounds(1) again", x.rounds(1), count < 5 ? count + 1 : 5);
        }
    }

    private static void valueFound() {
        Due.sentence("the least value of the place's entries of the sort that has so many lesser ones before it (index from 0)");
        int[][] sets = {{5}, {0}, {LOW}, {HIGH}, {-1, 0}, {LOW, HIGH}, {LOW, 0}, {0, HIGH}, {-2, -1, 0}, {LOW, 0, HIGH}, {LOW, LOW + 1, HIGH}, {-1, HIGH - 1, HIGH}};
        int[][] orders = {{0, 1, 2}, {0, 2, 1}, {1, 0, 2}, {1, 2, 0}, {2, 0, 1}, {2, 1, 0}};
        for (int[] set : sets) {
            for (int[] order : orders) {
                for (int sort = 1; sort <= 2; sort++) {
                    ZoneLookup x = new ZoneLookup();
                    Due.put(x, sort, -7, 1);
                    Due.key(x, 2);
                    for (int at : order) {
                        if (at < set.length) {
                            x.add(sort, set[at]);
                        }
                    }
                    x.add(3 - sort, -9);
                    for (int index = 0; index < set.length; index++) {
                        Due.due("value(" + sort + ", " + index + ")", x.value(sort, index), set[index]);
                    }
                    Due.due("one too many", x.value(sort, set.length), 0);
                    Due.due("one too few", x.value(sort, -1), 0);
                }
            }
        }
        ZoneLookup x = new ZoneLookup();
        Due.put(x, 3, 6560, 1);
        Due.due("an alias", x.value(3, 0), 6560);
        Due.put(x, 4, LOW, 2);
        Due.due("a hand-over", x.value(4, 0), LOW);
        Due.put(x, 1, 8, 7);
        Due.key(x, 5);
        Due.due("the place is a star", x.value(1, 0), 8);
    }

    private static void valueHanded() {
        Due.sentence("if it gives HANDED: the value of the place's hand-over entry (index 0)");
        for (int value : new int[] {LOW, -1, 0, 5, HIGH}) {
            ZoneLookup x = new ZoneLookup();
            Due.put(x, 4, value, 1);
            Due.put(x, 4, 3, 1, 1);
            Due.put(x, 4, 4);
            Due.put(x, 1, 6, 1);
            Due.put(x, 1, 7, 1);
            Due.put(x, 2, 8, 1, 1);
            Due.put(x, 3, 2, 1);
            for (int length = 1; length <= 4; length++) {
                for (int sort = 1; sort <= 3; sort++) {
                    Due.due("handed: value(" + sort + ", 0)", x.value(sort, 0), value);
                    for (int index : new int[] {1, 2, -1, LOW, HIGH}) {
                        Due.due("handed: value(" + sort + ", " + index + ")", x.value(sort, index), 0);
                    }
                }
                x.label(1);
            }
        }
    }

    private static void valueInAllOtherCases() {
        Due.sentence("0 in all other cases.");
        int[][] keys = {KEYS[1], KEYS[2], KEYS[4]};
        int[] indexes = {0, 1, 2, 3, -1, LOW, HIGH};
        for (int index : indexes) {
            for (int[] key : keys) {
                Refused.due("value(1, " + index + ")", mixedAt(key), x -> x.value(1, index), 0);
            }
        }
        for (int sort : Refused.WRONG_SORTS) {
            for (int[] key : KEYS) {
                Refused.due("value(" + sort + ", 0)", mixedAt(key), x -> x.value(sort, 0), 0);
                ZoneLookup x = new ZoneLookup();
                Zones.mixed(x);
                Due.key(x, key);
                for (int index : indexes) {
                    Due.due("value(" + sort + ", " + index + ")", x.value(sort, index), 0);
                }
            }
        }
        ZoneLookup x = new ZoneLookup();
        Due.put(x, 1, 5, 1);
        Due.put(x, 3, 2, 1);
        Due.due("a loop of a name that has data", x.value(1, 0), 0);
        Due.put(x, 4, 6, 1);
        Due.due("a loop of a name that has a hand-over", x.value(4, 0), 0);
        Due.due("new: value(1, 0)", new ZoneLookup().value(1, 0), 0);
        Due.due("new: value(4, 0)", new ZoneLookup().value(4, 0), 0);
    }

    private static void valueOfAWrongIndex() {
        Due.sentence("(index from 0)");
        int[][] keys = {{1, 2}, {2}, {1, 7}, {1, 0}, {}, {3}};
        int[] counts = {2, 2, 1, 1, 1, 1};
        for (int i = 0; i < keys.length; i++) {
            for (int index : new int[] {-1, -2, -3, counts[i], counts[i] + 1, 24, 25, 256, LOW, LOW + 1, HIGH}) {
                Refused.due("value(1, " + index + ")", mixedAt(keys[i]), x -> x.value(1, index), 0);
            }
        }
    }
}
