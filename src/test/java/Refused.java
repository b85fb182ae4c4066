import java.util.ArrayList;
import java.util.List;

/**
 * A call that must change nothing: each time it gives the answer that is due, and all that later
 * calls can tell of the object is the same as without it.
 */
final class Refused {
    interface Steps {
        void on(ZoneLookup x);
    }

    interface Call {
        int on(ZoneLookup x);
    }

    static final int[] WRONG_SORTS = {
        0, 5, -1, -2, -3, -4, 6, 7, 8, 9, 257, 260, 65537, Integer.MIN_VALUE, Integer.MIN_VALUE + 1, Integer.MAX_VALUE
    };

    // Three times, since a count that goes astray may come to light only after several.
    private static final int TIMES = 3;
    private static final int MOST_TOLD = 3;
    private static final int[] VALUES = {
        0, 1, 2, 3, 4, 5, 9, 29, 50, 77, 100, 999, -1, Integer.MIN_VALUE, Integer.MAX_VALUE
    };
    private static final List<int[]> NAMES = names();

    private Refused() {
    }

    static void due(String what, Steps before, Call call, int answer) {
        ZoneLookup x = new ZoneLookup();
        before.on(x);
        for (int time = 1; time <= TIMES; time++) {
            Due.due(what + ", time " + time, call.on(x), answer);
        }
        List<String> rows = new ArrayList<>();
        List<Integer> want = told(before, rows);
        List<Integer> got = told(y -> {
            before.on(y);
            for (int time = 1; time <= TIMES; time++) {
                call.on(y);
            }
        }, new ArrayList<>());
        int told = 0;
        for (int i = 0; i < rows.size() && told < MOST_TOLD; i++) {
            Due.due(what + ", later " + rows.get(i), got.get(i), want.get(i));
            told += got.get(i).equals(want.get(i)) ? 0 : 1;
        }
    }

    private static List<int[]> names() {
        List<int[]> names = new ArrayList<>();
        names.add(new int[] {});
        for (int first = 0; first < 8; first++) {
            names.add(new int[] {first});
            for (int second = 0; second < 8; second++) {
                names.add(new int[] {first, second});
            }
        }
        int[][] longer = {
            {0, 0, 0}, {1, 2, 3}, {1, 2, 7}, {7, 7, 7},
            {0, 0, 0, 0}, {1, 2, 3, 4}, {1, 2, 3, 5}, {1, 2, 3, 7}, {7, 7, 7, 7}
        };
        names.addAll(List.of(longer));
        return names;
    }

    // Every question gets an object of its own, so that none uses up the 512 calls.
    private static List<Integer> told(Steps steps, List<String> rows) {
        List<Integer> answers = new ArrayList<>();
        tellKey(fresh(steps), rows, answers);
        tellLabels(fresh(steps), rows, answers);
        tellRoom(fresh(steps), rows, answers);
        for (int[] name : NAMES) {
            tellLookups(fresh(steps), name, rows, answers);
            tellEntries(fresh(steps), name, rows, answers);
        }
        return answers;
    }

    private static ZoneLookup fresh(Steps steps) {
        ZoneLookup x = new ZoneLookup();
        steps.on(x);
        return x;
    }

    private static void tell(String row, int answer, List<String> rows, List<Integer> answers) {
        rows.add(row);
        answers.add(answer);
    }

    private static void tellKey(ZoneLookup x, List<String> rows, List<Integer> answers) {
        tell("number()", x.number(), rows, answers);
        for (int i = 0; i < 5; i++) {
            tell("back()", x.back(), rows, answers);
        }
        tell("number() at the end", x.number(), rows, answers);
    }

    private static void tellLabels(ZoneLookup x, List<String> rows, List<Integer> answers) {
        for (int i = 0; i < 5; i++) {
            tell("label(3)", x.label(3), rows, answers);
        }
        tell("number() after labels", x.number(), rows, answers);
    }

    private static void tellRoom(ZoneLookup x, List<String> rows, List<Integer> answers) {
        for (int i = 0; i < 25; i++) {
            Due.key(x, 5, 6, i % 8);
            tell("add(1, " + (1000 + i) + ")", x.add(1, 1000 + i), rows, answers);
        }
    }

    private static void tellLookups(ZoneLookup x, int[] name, List<String> rows, List<Integer> answers) {
        Due.key(x, name);
        String where = "for " + Due.numberOf(name) + ": ";
        tell(where + "exists()", x.exists(), rows, answers);
        for (int sort = 1; sort <= 4; sort++) {
            tell(where + "look(" + sort + ")", x.look(sort), rows, answers);
            tell(where + "place(" + sort + ")", x.place(sort), rows, answers);
            tell(where + "rounds(" + sort + ")", x.rounds(sort), rows, answers);
            for (int index = 0; index <= 3; index++) {
                tell(where + "value(" + sort + ", " + index + ")", x.value(sort, index), rows, answers);
            }
        }
    }

    // Twice each, since an entry that was taken in once too often goes out twice.
    private static void tellEntries(ZoneLookup x, int[] name, List<String> rows, List<Integer> answers) {
        Due.key(x, name);
        for (int sort = 1; sort <= 4; sort++) {
            for (int value : VALUES) {
                String row = "for " + Due.numberOf(name) + ": remove(" + sort + ", " + value + ")";
                tell(row, x.remove(sort, value), rows, answers);
                tell(row + " again", x.remove(sort, value), rows, answers);
            }
        }
    }
}
