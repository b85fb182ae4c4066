/** Promise 12: value. */
public final class ValueTest {
    private static final int LOW = Integer.MIN_VALUE;
    private static final int HIGH = Integer.MAX_VALUE;

    public static void main(String[] args) {
        dataFromTheLeast();
        dataAtTheEdgesOfInt();
        dataOfTheSortAndThePlaceAlone();
        aliasAndHandOverFound();
        handed();
        otherAnswers();
        wrongSorts();
        removedValuesAreGone();
        allEntriesHeld();
        Due.end();
    }

    private static void none(String what, ZoneLookup x, int sort, int... indexes) {
        for (int index : indexes) {
            Due.due(what + ": value(" + sort + ", " + index + ")", x.value(sort, index), 0);
        }
    }

    private static void dataFromTheLeast() {
        int[][] orders = {{1, 2, 3}, {1, 3, 2}, {2, 1, 3}, {2, 3, 1}, {3, 1, 2}, {3, 2, 1}};
        for (int[] order : orders) {
            for (int sort = 1; sort <= 2; sort++) {
                ZoneLookup x = new ZoneLookup();
                for (int value : order) {
                    x.add(sort, value * 10);
                }
                for (int index = 0; index < 3; index++) {
                    Due.due("value(" + sort + ", " + index + ")", x.value(sort, index), index * 10 + 10);
                }
                none("outside", x, sort, 3, 4, -1, LOW, HIGH);
                x.remove(sort, 20);
                Due.due("after remove", x.value(sort, 1), 30);
                none("after remove", x, sort, 2);
            }
        }
    }

    private static void dataAtTheEdgesOfInt() {
        ZoneLookup x = new ZoneLookup();
        x.label(1);
        x.add(1, HIGH);
        x.add(1, -1);
        x.add(1, LOW);
        Due.due("least int", x.value(1, 0), LOW);
        Due.due("-1", x.value(1, 1), -1);
        Due.due("greatest int", x.value(1, 2), HIGH);
        x.add(2, 0);
        x.add(2, -5);
        Due.due("negative", x.value(2, 0), -5);
        Due.due("nought", x.value(2, 1), 0);
    }

    private static void dataOfTheSortAndThePlaceAlone() {
        ZoneLookup x = new ZoneLookup();
        x.label(7);
        x.add(1, 50);
        x.add(2, 10);
        x.label(1);
        x.add(1, 20);
        x.erase();
        x.add(1, 30);
        x.label(2);
        x.add(3, Due.numberOf(7, 1));
        Due.key(x, 4);
        Due.due("the star's data", x.value(1, 0), 50);
        Due.due("the star's other data", x.value(2, 0), 10);
        none("the star's data", x, 1, 1);
        Due.key(x, 2);
        Due.due("the data behind an alias", x.value(1, 0), 20);
        none("the data behind an alias", x, 1, 1);
    }

    private static void aliasAndHandOverFound() {
        ZoneLookup x = new ZoneLookup();
        x.label(2);
        x.add(3, 4);
        Due.due("alias", x.value(3, 0), 4);
        none("alias", x, 3, 1, -1);
        x.label(5);
        x.add(4, 77);
        Due.due("hand-over found", x.value(4, 0), 77);
        none("hand-over found", x, 4, 1, -1);
    }

    private static void handed() {
        ZoneLookup x = new ZoneLookup();
        Due.key(x, 1, 1);
        x.add(4, 88);
        x.add(1, 5);
        Due.key(x, 1);
        x.add(4, -77);
        x.add(1, 6);
        x.add(1, 7);
        x.add(3, 3);
        Due.key(x, 1, 1);
        for (int sort = 1; sort <= 3; sort++) {
            Due.due("handed: value(" + sort + ", 0)", x.value(sort, 0), -77);
            none("handed", x, sort, 1, 2, -1, LOW, HIGH);
        }
    }

    private static void otherAnswers() {
        ZoneLookup x = new ZoneLookup();
        x.label(1);
        x.add(1, 5);
        Due.due("answer", x.look(2), ZoneLookup.NO_DATA);
        none("no data", x, 2, 0, 1, -1);
        none("no data", x, 4, 0);
        x.label(1);
        Due.due("answer", x.look(1), ZoneLookup.NO_NAME);
        none("no name", x, 1, 0, 1, -1);
        x.back();
        x.add(3, 2);
        Due.due("answer", x.look(1), ZoneLookup.LOOP);
        none("loop", x, 1, 0, 1, 5, -1);
        x.add(4, 6);
        Due.due("answer", x.look(4), ZoneLookup.LOOP);
        none("loop", x, 4, 0);
    }

    private static void wrongSorts() {
        ZoneLookup x = new ZoneLookup();
        x.add(1, 5);
        x.add(4, 6);
        x.value(1, 0);
        for (int sort : new int[] {0, 5, -1, LOW, HIGH}) {
            none("wrong sort", x, sort, 0, 1, -1);
        }
    }

    private static void removedValuesAreGone() {
        ZoneLookup x = new ZoneLookup();
        x.add(1, 10);
        x.add(1, 20);
        x.add(1, 5);
        x.remove(1, 5);
        Due.due("the least that is left", x.value(1, 0), 10);
        Due.due("the next that is left", x.value(1, 1), 20);
        none("the removed one", x, 1, 2);
        x.remove(1, 20);
        none("the removed ones", x, 1, 1, 2);
        x.remove(1, 10);
        none("all removed", x, 1, 0, 1, 2);
    }

    private static void allEntriesHeld() {
        ZoneLookup x = new ZoneLookup();
        for (int i = 0; i < 24; i++) {
            Due.key(x, i / 3);
            x.add(1, 100 - i);
        }
        for (int i = 0; i < 24; i++) {
            Due.key(x, i / 3);
            Due.due("value of 24", x.value(1, 2 - i % 3), 100 - i);
            none("value of 24", x, 1, 3, -1);
        }
    }
}
