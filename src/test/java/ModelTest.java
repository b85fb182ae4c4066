/** All promises: long mixed runs, the program's answers against the model's. */
public final class ModelTest {
    private static final int RUNS = 3000;
    private static final int MOST_CALLS = 512;
    private static final int[] LABELS = {1, 2, 7, 1, 2, 7, 0, 6, -1, 9};
    private static final int[] VALUES = {5, 0, -3, 5, 100, Integer.MIN_VALUE, Integer.MAX_VALUE};

    // A fixed row of numbers, so that every run of the tests makes the same calls.
    private static long state = 20261115L;
    private static final int[] seen = new int[6];

    private static int next(int bound) {
        state = state * 6364136223846793005L + 1442695040888963407L;
        return (int) ((state >>> 33) % bound);
    }

    public static void main(String[] args) {
        for (int run = 0; run < RUNS; run++) {
            run(run);
        }
        for (int answer = 1; answer <= 5; answer++) {
            Due.due("answer " + answer + " was seen often", seen[answer] > 1000 ? 1 : 0, 1);
        }
        Due.end();
    }

    private static void run(int run) {
        ZoneLookup x = new ZoneLookup();
        Model m = new Model();
        int labels = 2 + next(LABELS.length - 1);
        int removes = 1 + next(4);
        for (int call = 0; call < MOST_CALLS; call++) {
            String where = "run " + run + ", call " + (call + 1) + ": ";
            int kind = next(20);
            if (kind < 6) {
                int label = LABELS[next(labels)];
                Due.due(where + "label(" + label + ")", x.label(label), m.label(label));
            } else if (kind < 8) {
                Due.due(where + "back()", x.back(), m.back());
            } else if (kind < 10) {
                x.erase();
                m.erase();
            } else if (kind < 13) {
                int sort = sort();
                int value = sort == 3 ? aliasValue(labels) : VALUES[next(VALUES.length)];
                Due.due(where + "add(" + sort + ", " + value + ")", x.add(sort, value), m.add(sort, value));
            } else if (kind == 13) {
                for (int i = 0; i < removes && call < MOST_CALLS; i++, call++) {
                    int sort = sort();
                    int value = sort == 3 ? m.value(3, 0) : VALUES[next(VALUES.length)];
                    Due.due(where + "remove(" + sort + ", " + value + ")", x.remove(sort, value), m.remove(sort, value));
                }
                call--;
            } else {
                ask(where, x, m, kind);
            }
        }
    }

    private static void ask(String where, ZoneLookup x, Model m, int kind) {
        int sort = sort();
        if (kind == 14) {
            Due.due(where + "number()", x.number(), m.number());
        } else if (kind == 15) {
            Due.due(where + "exists()", x.exists(), m.exists());
        } else if (kind == 16) {
            int answer = m.look(sort);
            seen[Math.max(answer, 0)]++;
            Due.due(where + "look(" + sort + ")", x.look(sort), answer);
        } else if (kind == 17) {
            Due.due(where + "place(" + sort + ")", x.place(sort), m.place(sort));
        } else if (kind == 18) {
            Due.due(where + "rounds(" + sort + ")", x.rounds(sort), m.rounds(sort));
        } else {
            int index = next(5) - 1;
            Due.due(where + "value(" + sort + ", " + index + ")", x.value(sort, index), m.value(sort, index));
        }
    }

    private static int sort() {
        return next(25) == 0 ? next(2) * 5 : 1 + next(40) % (next(3) == 0 ? 4 : 3);
    }

    private static int aliasValue(int labels) {
        if (next(12) == 0) {
            return next(7000) - 100;
        }
        int number = 0;
        for (int length = next(5); length > 0; length--) {
            number = number * 9 + (LABELS[next(labels)] & 7) + 1;
        }
        return number;
    }
}
