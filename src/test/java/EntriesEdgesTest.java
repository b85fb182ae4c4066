/** The edges that promises 6 to 8 name, each sentence with a test of its own. */
public final class EntriesEdgesTest {
    private static final int LOW = Zones.LOW;
    private static final int HIGH = Zones.HIGH;
    private static final int[][] KEYS = {{}, {1}, {1, 2}, {2}, {3}, {7}, {1, 2, 3, 4}, {7, 7, 7, 7}};

    public static void main(String[] args) {
        addAnswers();
        addOfAWrongSort();
        addOfAWrongAlias();
        addToAFullSort();
        addOfTheSame();
        addToAFullObject();
        removeAnswers();
        removeOfNone();
        exists();
        Due.end();
    }

    private static void addAnswers() {
        Due.sentence("Adds an entry for the key. Answers how many entries are held then");
        ZoneLookup x = new ZoneLookup();
        int held = 0;
        for (int label = 0; label < 3; label++) {
            Due.key(x, label);
            for (int sort = 1; sort <= 4; sort++) {
                for (int value = 1; value <= (sort <= 2 ? 3 : 1); value++) {
                    held++;
                    Due.due("the entry " + held, x.add(sort, value), held);
                    Due.due("the key stays", x.number(), label + 1);
                }
            }
        }
        Due.due("up to 24", held, 24);
        Due.key(x, 1);
        x.remove(1, 2);
        x.remove(1, 3);
        Due.due("after two are gone", x.add(1, 9), 23);
        Due.due("for the key alone", x.remove(1, 9), 22);
    }

    private static void addOfAWrongSort() {
        Due.sentence("-1, and changes nothing, if sort is not from 1 to 4");
        for (int sort : Refused.WRONG_SORTS) {
            for (int value : new int[] {0, 5, LOW}) {
                Refused.due("new: add(" + sort + ", " + value + ")", x -> x.label(1), x -> x.add(sort, value), -1);
            }
            Refused.due("mixed: add(" + sort + ", 50)", x -> {
                Zones.mixed(x);
                Due.key(x, 1, 2);
            }, x -> x.add(sort, 50), -1);
            Refused.due("full: add(" + sort + ", 1)", Zones::full, x -> x.add(sort, 1), -1);
        }
        for (int sort = 1; sort <= 4; sort++) {
            Due.due("a sort from 1 to 4", new ZoneLookup().add(sort, 0), 1);
        }
    }

    private static void addOfAWrongAlias() {
        Due.sentence("or an alias's value is not the number of a name");
        // In base 9: a 0 among the digits, at the end, in the middle, next to the first; five digits; more; none at all.
        int[] wrong = {
            9, 18, 72, 81, 82, 89, 90, 729, 730, 738, 810, 6480, 6543, 6552, 6561, 6562, 7380, 7381, 59048, 66430,
            HIGH, HIGH - 1, -1, -8, -9, -10, -6560, LOW, LOW + 1, 1 << 16, 1 << 30, 65536 + 1, 4 - 65536
        };
        for (int value : wrong) {
            Refused.due("new: add(3, " + value + ")", x -> x.label(1), x -> x.add(3, value), -1);
            Refused.due("mixed: add(3, " + value + ")", x -> {
                Zones.mixed(x);
                Due.key(x, 1, 2);
            }, x -> x.add(3, value), -1);
            for (int sort : new int[] {1, 2, 4}) {
                Due.due("sort " + sort + " takes " + value, new ZoneLookup().add(sort, value), 1);
            }
        }
        int taken = 0;
        for (int value = -7000; value <= 70000; value++) {
            taken += new ZoneLookup().add(3, value) == 1 ? 1 : 0;
        }
        Due.due("as many values as there are names", taken, 4681);
        for (int value : new int[] {0, 1, 8, 10, 80, 91, 728, 820, 6560}) {
            Due.due("add(3, " + value + ")", new ZoneLookup().add(3, value), 1);
        }
    }

    private static void addToAFullSort() {
        Due.sentence("or the name has as many entries of the sort as it may have");
        for (int[] key : KEYS) {
            for (int sort = 1; sort <= 4; sort++) {
                int full = sort;
                Refused.Steps before = x -> {
                    for (int value = 1; value <= (full <= 2 ? 3 : 1); value++) {
                        Due.put(x, full, value, key);
                    }
                };
                Refused.due("one more of sort " + full, before, x -> x.add(full, 5), -1);
                Refused.due("the same of sort " + full, before, x -> x.add(full, 1), -1);
                ZoneLookup x = new ZoneLookup();
                before.on(x);
                int held = full <= 2 ? 3 : 1;
                for (int other = 1; other <= 4; other++) {
                    Due.due("sort " + other, x.add(other, 5), other == full ? -1 : ++held);
                }
                Due.key(x, 6, 6, 6);
                Due.due("another name", x.add(full, 5), ++held);
            }
        }
        Refused.Steps fullName = x -> {
            Zones.mixed(x);
            Zones.fullName(x, 5);
        };
        for (int sort = 1; sort <= 4; sort++) {
            int full = sort;
            Refused.due("a name with eight entries", fullName, x -> x.add(full, 0), -1);
        }
    }

    private static void addOfTheSame() {
        Due.sentence("or one with this sort and value");
        for (int[] key : KEYS) {
            for (int value : new int[] {0, 5, -1, LOW, HIGH}) {
                for (int sort = 1; sort <= 2; sort++) {
                    int same = sort;
                    Refused.due("the only one of sort " + same, x -> Due.put(x, same, value, key), x -> x.add(same, value), -1);
                    Refused.due("the second one of sort " + same, x -> {
                        Due.put(x, same, 7, key);
                        Due.put(x, same, value, key);
                        Due.put(x, 3 - same, value, key);
                    }, x -> x.add(same, value), -1);
                }
            }
        }
        ZoneLookup x = new ZoneLookup();
        x.label(1);
        x.add(1, 5);
        Due.due("another value", x.add(1, 4), 2);
        Due.due("another sort", x.add(2, 5), 3);
        x.label(1);
        Due.due("another name", x.add(1, 5), 4);
        x.remove(1, 5);
        Due.due("when it is gone", x.add(1, 5), 4);
    }

    private static void addToAFullObject() {
        Due.sentence("or 24 are held.");
        int[][] keys = {{}, {0}, {2}, {3}, {0, 0}, {7, 7, 7, 7}};
        for (int[] key : keys) {
            for (int sort = 1; sort <= 4; sort++) {
                int more = sort;
                // 1 is there already for the full names, and 9 is no name's number.
                for (int value : new int[] {5, 1, 9}) {
                    Refused.due("the 25th, add(" + more + ", " + value + ")", x -> {
                        Zones.full(x);
                        Due.key(x, key);
                    }, x -> x.add(more, value), -1);
                }
            }
        }
        Refused.due("the 25th, with room made and taken", x -> {
            Zones.full(x);
            x.remove(2, 2);
            Due.put(x, 1, 5, 4, 4);
            x.label(4);
        }, x -> x.add(1, 6), -1);
        ZoneLookup x = new ZoneLookup();
        Zones.full(x);
        Due.key(x, 5);
        Due.due("the 25th", x.add(1, 5), -1);
        Due.due("it isn't there", x.exists(), 0);
        Due.key(x, 0);
        Due.due("one is gone", x.remove(1, 1), 23);
        Due.key(x, 5);
        Due.due("the 24th", x.add(1, 5), 24);
        Due.due("the 25th again", x.add(1, 6), -1);
        Due.due("the 24th is there", x.value(1, 0), 5);
    }

    private static void removeAnswers() {
        Due.sentence("Takes the key's entry of the sort with the value out. Answers how many are held then");
        for (int order = 0; order < 2; order++) {
            ZoneLookup x = new ZoneLookup();
            Zones.full(x);
            int held = 24;
            for (int i = 0; i < 3; i++) {
                Due.key(x, order == 0 ? i : 2 - i);
                for (int sort = 1; sort <= 4; sort++) {
                    for (int value = 1; value <= (sort <= 2 ? 3 : 1); value++) {
                        held--;
                        Due.due("with " + held + " left", x.remove(sort, value), held);
                        Due.due("the key stays", x.number(), order == 0 ? i + 1 : 3 - i);
                    }
                }
                Due.due("all of the name's are gone", x.exists(), 0);
            }
            Due.due("none is left", held, 0);
            Due.due("the first one again", x.add(1, 1), 1);
        }
        for (int value : new int[] {LOW, -1, 0, HIGH}) {
            ZoneLookup x = new ZoneLookup();
            Due.put(x, 1, value, 1);
            x.add(1, value + 1);
            Due.due("remove(1, " + value + ")", x.remove(1, value), 1);
            Due.due("the other one stays", x.value(1, 0), value + 1);
        }
    }

    private static void removeOfNone() {
        Due.sentence("-1, and changes nothing, if there is none.");
        for (int sort : new int[] {1, 2, 3, 4, 0, 5, -1, LOW, HIGH}) {
            Refused.due("new: remove(" + sort + ", 0)", x -> { }, x -> x.remove(sort, 0), -1);
        }
        for (int sort : Refused.WRONG_SORTS) {
            for (int value : new int[] {0, 50, 77}) {
                Refused.due("wrong sort: remove(" + sort + ", " + value + ")", x -> {
                    Zones.mixed(x);
                    Due.key(x, 1, 2);
                }, x -> x.remove(sort, value), -1);
            }
            Refused.due("full: remove(" + sort + ", 1)", Zones::full, x -> x.remove(sort, 1), -1);
        }
        int[][] others = {{}, {1}, {1, 2, 3}, {1, 2, 3, 4}, {1, 7}, {1, 3}, {2, 1}, {2}, {7}};
        for (int[] key : others) {
            Refused.due("another name's data", x -> {
                Zones.mixed(x);
                Due.key(x, key);
            }, x -> x.remove(1, 50), -1);
        }
        int[][] wrong = {{1, 77}, {2, 50}, {2, 100}, {3, 50}, {4, 50}, {4, 77}, {1, 51}, {1, 49}, {1, LOW}, {1, HIGH}, {3, 0}, {4, 0}};
        for (int[] entry : wrong) {
            Refused.due("another sort or value: remove(" + entry[0] + ", " + entry[1] + ")", x -> {
                Zones.mixed(x);
                Due.key(x, 1, 2);
            }, x -> x.remove(entry[0], entry[1]), -1);
        }
        Refused.due("already gone", x -> {
            Zones.mixed(x);
            Due.key(x, 1, 2);
            x.remove(1, 50);
        }, x -> x.remove(1, 50), -1);
        Refused.due("the last one already gone", x -> {
            Due.put(x, 1, 0, 1);
            x.remove(1, 0);
        }, x -> x.remove(1, 0), -1);
        Refused.due("by way of an alias", x -> {
            Zones.mixed(x);
            Due.key(x, 2);
        }, x -> x.remove(1, 100), -1);
        Refused.due("by way of a hand-over", x -> {
            Zones.mixed(x);
            Due.key(x, 3, 1);
        }, x -> x.remove(4, 77), -1);
    }

    private static void exists() {
        Due.sentence("1 if the key exists, else 0.");
        int[][] keys = {{}, {1}, {1, 2}, {1, 2, 3}, {1, 2, 3, 4}, {1, 7}, {2}, {3, 1}, {0}, {7}, {1, 3}, {2, 0}, {3, 2}, {1, 2, 3, 5}, {7, 7, 7, 7}};
        for (int i = 0; i < keys.length; i++) {
            int[] key = keys[i];
            Refused.due("exists() of " + Due.numberOf(key), x -> {
                Zones.mixed(x);
                Due.key(x, key);
            }, x -> x.exists(), i < 8 ? 1 : 0);
        }
    }
}
