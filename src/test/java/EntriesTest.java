/** Promises 6 to 8: add, remove, exists. */
public final class EntriesTest {
    private static final int LOW = Integer.MIN_VALUE;
    private static final int HIGH = Integer.MAX_VALUE;

    public static void main(String[] args) {
        addCounts();
        addRefusesWrongSorts();
        addRefusesSameData();
        addKeepsToMostOfASort();
        addKeepsToMostOfAll();
        addTakesAnyDataAndHandOverValue();
        aliasValuesAreNumbersOfNames();
        refusedAddChangesNothing();
        remove();
        removeMissing();
        removeEachOfThree();
        removeGivesRoom();
        exists();
        existsAfterRemove();
        existsOnlyAbove();
        Due.end();
    }

    private static void addCounts() {
        ZoneLookup x = new ZoneLookup();
        Due.due("add data 1", x.add(1, 5), 1);
        Due.due("add data 2, same value", x.add(2, 5), 2);
        Due.due("add alias", x.add(3, 5), 3);
        Due.due("add hand-over", x.add(4, 5), 4);
        x.label(1);
        Due.due("add for another name", x.add(1, 5), 5);
        Due.due("add leaves the key", x.number(), 2);
    }

    private static void addRefusesWrongSorts() {
        ZoneLookup x = new ZoneLookup();
        for (int sort : new int[] {0, 5, -1, 6, LOW, HIGH}) {
            Due.due("add(" + sort + ", 1)", x.add(sort, 1), -1);
        }
        Due.due("add after wrong sorts", x.add(1, 1), 1);
    }

    private static void addRefusesSameData() {
        ZoneLookup x = new ZoneLookup();
        x.label(2);
        for (int sort = 1; sort <= 4; sort++) {
            Due.due("add the first time", x.add(sort, 4), sort);
            Due.due("add the second time", x.add(sort, 4), -1);
        }
        x.label(2);
        Due.due("the same for another name", x.add(1, 4), 5);
    }

    private static void addKeepsToMostOfASort() {
        ZoneLookup x = new ZoneLookup();
        x.label(6);
        for (int sort = 1; sort <= 2; sort++) {
            int before = (sort - 1) * 3;
            Due.due("data 1st", x.add(sort, 1), before + 1);
            Due.due("data 2nd", x.add(sort, 2), before + 2);
            Due.due("data 3rd", x.add(sort, 3), before + 3);
            Due.due("data 4th", x.add(sort, 4), -1);
        }
        Due.due("alias 1st", x.add(3, 1), 7);
        Due.due("alias 2nd", x.add(3, 2), -1);
        Due.due("hand-over 1st", x.add(4, 1), 8);
        Due.due("hand-over 2nd", x.add(4, 2), -1);
        x.erase();
        Due.due("data of another name", x.add(1, 4), 9);
        Due.due("alias of another name", x.add(3, 2), 10);
        Due.due("hand-over of another name", x.add(4, 2), 11);
    }

    private static ZoneLookup full() {
        ZoneLookup x = new ZoneLookup();
        for (int i = 0; i < 24; i++) {
            Due.key(x, i / 3);
            Due.due("add up to 24", x.add(1, i), i + 1);
        }
        return x;
    }

    private static void addKeepsToMostOfAll() {
        ZoneLookup x = full();
        Due.key(x, 1, 1);
        for (int sort = 1; sort <= 4; sort++) {
            Due.due("add the 25th", x.add(sort, 1), -1);
        }
        Due.due("the 25th's name", x.exists(), 0);
        Due.key(x, 7);
        Due.due("the 24th is there", x.value(1, 2), 23);
        Due.due("remove of 24", x.remove(1, 23), 23);
        Due.key(x, 1, 1);
        Due.due("add the 24th anew", x.add(2, 1), 24);
        Due.due("add the 25th anew", x.add(2, 2), -1);
    }

    private static void addTakesAnyDataAndHandOverValue() {
        for (int sort : new int[] {1, 2, 4}) {
            for (int value : new int[] {LOW, -1, 0, 9, 81, 7000, HIGH}) {
                ZoneLookup x = new ZoneLookup();
                x.label(1);
                Due.due("add(" + sort + ", " + value + ")", x.add(sort, value), 1);
                Due.due("value(" + sort + ", 0)", x.value(sort, 0), value);
            }
        }
    }

    private static boolean[] numbersOfNames() {
        boolean[] isNumber = new boolean[60000];
        int[] level = {0};
        isNumber[0] = true;
        for (int length = 1; length <= 4; length++) {
            int[] next = new int[level.length * 8];
            for (int i = 0; i < next.length; i++) {
                next[i] = level[i / 8] * 9 + i % 8 + 1;
                isNumber[next[i]] = true;
            }
            level = next;
        }
        return isNumber;
    }

    private static void aliasValuesAreNumbersOfNames() {
        boolean[] isNumber = numbersOfNames();
        for (int value = 0; value < isNumber.length; value++) {
            Due.due("add(3, " + value + ")", new ZoneLookup().add(3, value), isNumber[value] ? 1 : -1);
        }
        for (int value = -60000; value < 0; value++) {
            Due.due("add(3, " + value + ")", new ZoneLookup().add(3, value), -1);
        }
        for (int value : new int[] {LOW, LOW + 1, HIGH, HIGH - 1, 1 << 16, 1 << 30}) {
            Due.due("add(3, " + value + ")", new ZoneLookup().add(3, value), -1);
        }
    }

    private static void refusedAddChangesNothing() {
        ZoneLookup x = new ZoneLookup();
        x.label(3);
        x.add(3, 9);
        x.add(0, 1);
        x.add(5, 1);
        Due.due("refused: exists()", x.exists(), 0);
        x.add(3, 5);
        x.add(3, 6);
        Due.due("refused: alias stays", x.value(3, 0), 5);
        x.add(4, 1);
        x.add(4, 2);
        Due.due("refused: hand-over stays", x.value(4, 0), 0);
        x.remove(3, 5);
        Due.due("refused: hand-over stays", x.value(4, 0), 1);
        Due.due("refused: number()", x.number(), 4);
        Due.due("refused: count", x.add(1, 1), 2);
    }

    private static void remove() {
        ZoneLookup x = new ZoneLookup();
        x.label(2);
        x.add(1, 5);
        x.add(2, 5);
        x.add(3, 5);
        x.add(4, 5);
        x.label(2);
        x.add(1, 5);
        x.back();
        Due.due("remove data", x.remove(1, 5), 4);
        Due.due("remove data again", x.remove(1, 5), -1);
        Due.due("remove alias", x.remove(3, 5), 3);
        Due.due("remove hand-over", x.remove(4, 5), 2);
        Due.looked("sort 1 is gone", x, 1, ZoneLookup.NO_DATA, 3, 1);
        Due.looked("sort 2 stays", x, 2, ZoneLookup.FOUND, 3, 1);
        Due.looked("sort 3 is gone", x, 3, ZoneLookup.NO_DATA, 3, 1);
        Due.looked("sort 4 is gone", x, 4, ZoneLookup.NO_DATA, 3, 1);
        Due.due("remove leaves the key", x.number(), 3);
        x.label(2);
        Due.looked("the name below stays", x, 1, ZoneLookup.FOUND, 30, 1);
        Due.due("remove the name below", x.remove(1, 5), 1);
        x.back();
        Due.due("remove the last", x.remove(2, 5), 0);
        Due.due("remove from none", x.remove(2, 5), -1);
    }

    private static void removeMissing() {
        ZoneLookup x = new ZoneLookup();
        x.label(2);
        x.add(1, 0);
        Due.due("remove: other sort", x.remove(2, 0), -1);
        Due.due("remove: other value", x.remove(1, 1), -1);
        for (int sort : new int[] {0, 5, -1, LOW, HIGH}) {
            Due.due("remove: wrong sort", x.remove(sort, 0), -1);
        }
        x.label(2);
        Due.due("remove: name below", x.remove(1, 0), -1);
        x.erase();
        Due.due("remove: name above", x.remove(1, 0), -1);
        x.label(7);
        Due.due("remove: star", x.remove(1, 0), -1);
        Due.key(x, 2);
        Due.due("remove: nothing changed", x.value(1, 0) + x.look(1), ZoneLookup.FOUND);
        Due.due("remove: count unchanged", x.add(1, 1), 2);
    }

    private static void removeEachOfThree() {
        for (int gone = 0; gone < 3; gone++) {
            ZoneLookup x = new ZoneLookup();
            for (int i = 0; i < 3; i++) {
                Due.key(x, i);
                x.add(1 + i % 2, 10 + i);
            }
            Due.key(x, gone);
            Due.due("remove one of three", x.remove(1 + gone % 2, 10 + gone), 2);
            for (int i = 0; i < 3; i++) {
                Due.key(x, i);
                Due.due("exists() after one of three", x.exists(), i == gone ? 0 : 1);
                Due.due("value after one of three", x.value(1 + i % 2, 0), i == gone ? 0 : 10 + i);
            }
        }
    }

    private static void removeGivesRoom() {
        ZoneLookup x = new ZoneLookup();
        x.add(1, 1);
        x.add(1, 2);
        x.add(1, 3);
        x.remove(1, 2);
        Due.due("add in the room of another", x.add(1, 4), 3);
        x.add(3, 1);
        x.remove(3, 1);
        Due.due("add another alias", x.add(3, 2), 4);
        x.add(4, 1);
        x.remove(4, 1);
        Due.due("add the same hand-over again", x.add(4, 1), 5);
    }

    private static void exists() {
        for (int sort = 1; sort <= 4; sort++) {
            ZoneLookup x = new ZoneLookup();
            Due.key(x, 1, 2, 3, 4);
            Due.due("exists() before", x.exists(), 0);
            x.add(sort, 0);
            for (int length = 4; length >= 0; length--) {
                Due.due("exists() with " + length + " labels", x.exists(), 1);
                x.back();
            }
        }
    }

    private static void existsAfterRemove() {
        ZoneLookup x = new ZoneLookup();
        Due.key(x, 1, 2);
        x.add(1, 0);
        x.add(2, 0);
        x.remove(1, 0);
        Due.due("one is left", x.exists(), 1);
        x.remove(2, 0);
        Due.due("none is left", x.exists(), 0);
        x.back();
        Due.due("none is left below", x.exists(), 0);
        x.erase();
        Due.due("the empty name", x.exists(), 1);
    }

    private static void existsOnlyAbove() {
        ZoneLookup x = new ZoneLookup();
        Due.key(x, 1, 2);
        x.add(1, 0);
        int[][] others = {{2}, {1, 1}, {1, 3}, {2, 1}, {2, 2}, {1, 2, 0}, {1, 2, 7}, {1, 7}, {7}, {0}, {0, 1, 2}};
        for (int[] labels : others) {
            Due.key(x, labels);
            Due.due("exists() of " + x.number(), x.exists(), 0);
        }
        Due.key(x, 7, 1);
        x.add(1, 0);
        Due.key(x, 5);
        Due.due("a star makes no name exist", x.exists(), 0);
        Due.key(x, 7);
        Due.due("a star above a name", x.exists(), 1);
    }
}
