/** Promises 9 to 11: look, place, rounds, by the steps (a) to (d) of a round. */
public final class LookingUpTest {
    public static void main(String[] args) {
        constants();
        wrongSorts();
        handOverOfTheNameAndAbove();
        shortestHandOverWins();
        emptyNameHandsNothingOver();
        sortFourIsNotHanded();
        handOverComesBeforeAliasAndMissingName();
        handOverAfterAlias();
        starHandOverIsNotAbove();
        missingName();
        starBelowTheLongestThatExists();
        starThatOnlyStandsAbove();
        starAsAnOrdinaryLabel();
        aliasIsFollowed();
        aliasIsNotFollowedForSortThree();
        aliasOfAStar();
        aliasOfTheEmptyName();
        aliasToMissingName();
        fiveRounds();
        loops();
        lookingUpChangesNothing();
        eachCallLooksUpAnew();
        Due.end();
    }

    private static void constants() {
        Due.due("FOUND", ZoneLookup.FOUND, 1);
        Due.due("NO_DATA", ZoneLookup.NO_DATA, 2);
        Due.due("NO_NAME", ZoneLookup.NO_NAME, 3);
        Due.due("HANDED", ZoneLookup.HANDED, 4);
        Due.due("LOOP", ZoneLookup.LOOP, 5);
    }

    private static void wrongSorts() {
        ZoneLookup x = new ZoneLookup();
        x.add(1, 1);
        x.add(4, 1);
        for (int sort : new int[] {0, 5, -1, 9, Integer.MIN_VALUE, Integer.MAX_VALUE}) {
            Due.looked("wrong sort", x, sort, -1, -1, -1);
        }
        Due.looked("after wrong sorts", x, 1, ZoneLookup.FOUND, 0, 1);
    }

    private static ZoneLookup with(int sort, int value, int... labels) {
        ZoneLookup x = new ZoneLookup();
        Due.put(x, sort, value, labels);
        return x;
    }

    private static void handOverOfTheNameAndAbove() {
        ZoneLookup x = with(4, 70, 1, 2);
        Due.put(x, 1, 5, 1, 2, 3);
        Due.put(x, 1, 5, 1, 2);
        int place = Due.numberOf(1, 2);
        int[][] under = {{1, 2}, {1, 2, 3}, {1, 2, 4}, {1, 2, 3, 4}, {1, 2, 7}};
        for (int[] labels : under) {
            Due.key(x, labels);
            for (int sort = 1; sort <= 3; sort++) {
                Due.looked("handed", x, sort, ZoneLookup.HANDED, place, 1);
            }
        }
        Due.key(x, 1);
        Due.looked("above the hand-over", x, 1, ZoneLookup.NO_DATA, 2, 1);
        Due.key(x, 1, 3);
        Due.looked("beside the hand-over", x, 1, ZoneLookup.NO_NAME, Due.numberOf(1, 3), 1);
    }

    private static void shortestHandOverWins() {
        ZoneLookup x = with(4, 1, 3, 3, 3, 3);
        Due.put(x, 4, 2, 3, 3);
        Due.put(x, 4, 3, 3, 3, 3);
        Due.key(x, 3, 3, 3, 3);
        Due.looked("shortest of three", x, 1, ZoneLookup.HANDED, Due.numberOf(3, 3), 1);
        Due.put(x, 4, 4, 3);
        Due.key(x, 3, 3, 3, 3);
        Due.looked("shortest of four", x, 2, ZoneLookup.HANDED, 4, 1);
        Due.key(x, 3, 3);
        Due.looked("shortest of two", x, 3, ZoneLookup.HANDED, 4, 1);
        Due.key(x, 3);
        x.remove(4, 4);
        Due.key(x, 3, 3);
        x.remove(4, 2);
        Due.key(x, 3, 3, 3, 3);
        Due.looked("shortest after remove", x, 1, ZoneLookup.HANDED, Due.numberOf(3, 3, 3), 1);
    }

    private static void emptyNameHandsNothingOver() {
        ZoneLookup x = with(4, 9);
        Due.put(x, 1, 5);
        Due.looked("the empty name", x, 1, ZoneLookup.FOUND, 0, 1);
        Due.looked("the empty name", x, 2, ZoneLookup.NO_DATA, 0, 1);
        Due.looked("the empty name", x, 4, ZoneLookup.FOUND, 0, 1);
        Due.key(x, 2);
        Due.looked("below the empty name", x, 1, ZoneLookup.NO_NAME, 3, 1);
        Due.put(x, 4, 8, 2);
        Due.looked("the empty name isn't the shortest", x, 1, ZoneLookup.HANDED, 3, 1);
    }

    private static void sortFourIsNotHanded() {
        ZoneLookup x = with(4, 70, 1);
        Due.put(x, 4, 71, 1, 2);
        Due.put(x, 1, 5, 1, 3);
        Due.key(x, 1);
        Due.looked("sort 4", x, 4, ZoneLookup.FOUND, 2, 1);
        Due.key(x, 1, 2);
        Due.looked("sort 4 below", x, 4, ZoneLookup.FOUND, Due.numberOf(1, 2), 1);
        Due.key(x, 1, 3);
        Due.looked("sort 4 below", x, 4, ZoneLookup.NO_DATA, Due.numberOf(1, 3), 1);
        Due.key(x, 1, 4);
        Due.looked("sort 4 below", x, 4, ZoneLookup.NO_NAME, Due.numberOf(1, 4), 1);
    }

    private static void handOverComesBeforeAliasAndMissingName() {
        ZoneLookup x = with(4, 70, 1);
        Due.put(x, 3, 3, 1);
        Due.put(x, 1, 5, 2);
        Due.key(x, 1);
        Due.looked("hand-over and alias", x, 1, ZoneLookup.HANDED, 2, 1);
        Due.looked("hand-over and alias", x, 3, ZoneLookup.HANDED, 2, 1);
        Due.looked("hand-over and alias", x, 4, ZoneLookup.NO_DATA, 3, 2);
        Due.key(x, 1, 1, 1);
        Due.looked("hand-over and no name", x, 1, ZoneLookup.HANDED, 2, 1);
    }

    private static void handOverAfterAlias() {
        ZoneLookup x = with(4, 70, 1);
        Due.put(x, 3, Due.numberOf(1, 5, 6), 2);
        Due.key(x, 2);
        Due.looked("alias under a hand-over", x, 1, ZoneLookup.HANDED, 2, 2);
        Due.looked("alias under a hand-over", x, 3, ZoneLookup.FOUND, 3, 1);
        Due.looked("alias under a hand-over", x, 4, ZoneLookup.NO_NAME, Due.numberOf(1, 5, 6), 2);
    }

    private static void starHandOverIsNotAbove() {
        ZoneLookup x = with(4, 70, 7);
        Due.key(x, 3);
        Due.looked("star's hand-over for another name", x, 1, ZoneLookup.NO_DATA, 8, 1);
        Due.looked("star's hand-over for another name", x, 4, ZoneLookup.FOUND, 8, 1);
        Due.key(x, 7);
        Due.looked("star's hand-over for the star", x, 1, ZoneLookup.HANDED, 8, 1);
        Due.key(x, 7, 1);
        Due.looked("star's hand-over below the star", x, 1, ZoneLookup.HANDED, 8, 1);
    }

    private static void missingName() {
        ZoneLookup x = with(1, 5, 1, 2, 3, 4);
        int[][] missing = {{2}, {1, 3}, {1, 2, 4}, {1, 2, 3, 5}, {7}, {1, 7}, {2, 2, 2, 2}};
        for (int[] labels : missing) {
            Due.key(x, labels);
            for (int sort = 1; sort <= 4; sort++) {
                Due.looked("missing", x, sort, ZoneLookup.NO_NAME, Due.numberOf(labels), 1);
            }
        }
        Due.key(x, 1, 2, 3);
        Due.looked("only above", x, 1, ZoneLookup.NO_DATA, Due.numberOf(1, 2, 3), 1);
    }

    private static void starBelowTheLongestThatExists() {
        ZoneLookup x = with(1, 5, 7);
        Due.put(x, 1, 6, 1, 7);
        Due.put(x, 2, 7, 1, 2);
        Due.put(x, 1, 8, 3, 3, 3, 7);
        Due.key(x, 1, 3);
        Due.looked("star beside", x, 1, ZoneLookup.FOUND, Due.numberOf(1, 7), 1);
        Due.looked("star beside", x, 2, ZoneLookup.NO_DATA, Due.numberOf(1, 7), 1);
        Due.key(x, 1, 3, 4, 5);
        Due.looked("star far above", x, 1, ZoneLookup.FOUND, Due.numberOf(1, 7), 1);
        Due.key(x, 1, 2, 3);
        Due.looked("no star at the longest", x, 1, ZoneLookup.NO_NAME, Due.numberOf(1, 2, 3), 1);
        Due.key(x, 1, 2);
        Due.looked("no star for a name that exists", x, 1, ZoneLookup.NO_DATA, Due.numberOf(1, 2), 1);
        Due.key(x, 4, 4, 4, 4);
        Due.looked("star of the empty name", x, 1, ZoneLookup.FOUND, 8, 1);
        Due.key(x, 3, 4);
        Due.looked("no star, though above a name", x, 1, ZoneLookup.NO_NAME, Due.numberOf(3, 4), 1);
        Due.key(x, 3, 3, 3, 4);
        Due.looked("star as the fourth label", x, 1, ZoneLookup.FOUND, Due.numberOf(3, 3, 3, 7), 1);
    }

    private static void starThatOnlyStandsAbove() {
        ZoneLookup x = with(1, 5, 2, 7, 4);
        Due.key(x, 2, 3);
        Due.looked("star above a name", x, 1, ZoneLookup.NO_DATA, Due.numberOf(2, 7), 1);
        Due.key(x, 2, 3, 4);
        Due.looked("star takes no label over", x, 1, ZoneLookup.NO_DATA, Due.numberOf(2, 7), 1);
    }

    private static void starAsAnOrdinaryLabel() {
        ZoneLookup x = with(1, 5, 2, 7);
        Due.key(x, 2, 7);
        Due.looked("the star itself", x, 1, ZoneLookup.FOUND, Due.numberOf(2, 7), 1);
        Due.key(x, 2, 7, 1);
        Due.looked("below the star", x, 1, ZoneLookup.NO_NAME, Due.numberOf(2, 7, 1), 1);
        Due.put(x, 2, 6, 2, 7, 7);
        Due.key(x, 2, 7, 1);
        Due.looked("the star of the star", x, 2, ZoneLookup.FOUND, Due.numberOf(2, 7, 7), 1);
    }

    private static void aliasIsFollowed() {
        ZoneLookup x = with(3, Due.numberOf(3, 4), 2);
        Due.put(x, 1, 5, 3, 4);
        Due.put(x, 1, 6, 2);
        Due.key(x, 2);
        Due.looked("alias", x, 1, ZoneLookup.FOUND, Due.numberOf(3, 4), 2);
        Due.looked("alias", x, 2, ZoneLookup.NO_DATA, Due.numberOf(3, 4), 2);
        Due.looked("alias", x, 4, ZoneLookup.NO_DATA, Due.numberOf(3, 4), 2);
        Due.key(x, 2, 1);
        Due.looked("an alias above isn't followed", x, 1, ZoneLookup.NO_NAME, Due.numberOf(2, 1), 1);
    }

    private static void aliasIsNotFollowedForSortThree() {
        ZoneLookup x = with(3, 4, 2);
        Due.put(x, 3, 3, 3);
        Due.key(x, 2);
        Due.looked("sort 3", x, 3, ZoneLookup.FOUND, 3, 1);
        Due.key(x, 3);
        Due.looked("sort 3", x, 3, ZoneLookup.FOUND, 4, 1);
    }

    private static void aliasOfAStar() {
        ZoneLookup x = with(3, Due.numberOf(1, 1), 7);
        Due.put(x, 1, 5, 1, 1);
        Due.key(x, 4, 4);
        Due.looked("star's alias", x, 1, ZoneLookup.FOUND, Due.numberOf(1, 1), 2);
        Due.looked("star's alias", x, 3, ZoneLookup.FOUND, 8, 1);
        Due.looked("star's alias", x, 4, ZoneLookup.NO_DATA, Due.numberOf(1, 1), 2);
    }

    private static void aliasOfTheEmptyName() {
        ZoneLookup x = with(3, 2);
        Due.put(x, 1, 5, 1);
        Due.put(x, 3, 0, 2);
        x.erase();
        Due.looked("empty name's alias", x, 1, ZoneLookup.FOUND, 2, 2);
        Due.key(x, 2);
        Due.looked("alias to the empty name", x, 1, ZoneLookup.FOUND, 2, 3);
        x.erase();
        x.remove(3, 2);
        Due.key(x, 2);
        Due.looked("alias to the empty name", x, 1, ZoneLookup.NO_DATA, 0, 2);
    }

    private static void aliasToMissingName() {
        ZoneLookup x = with(3, Due.numberOf(5, 5), 2);
        Due.key(x, 2);
        Due.looked("alias to no name", x, 1, ZoneLookup.NO_NAME, Due.numberOf(5, 5), 2);
        Due.put(x, 1, 5, 7);
        Due.key(x, 2);
        Due.looked("alias to a name under a star", x, 1, ZoneLookup.FOUND, 8, 2);
    }

    private static void fiveRounds() {
        ZoneLookup x = with(1, 5, 6);
        for (int label = 0; label < 6; label++) {
            Due.put(x, 3, label + 2, label);
        }
        for (int label = 6; label >= 2; label--) {
            Due.key(x, label);
            Due.looked("chain", x, 1, ZoneLookup.FOUND, 7, 7 - label);
            Due.looked("chain", x, 2, ZoneLookup.NO_DATA, 7, 7 - label);
        }
        Due.key(x, 1);
        Due.looked("chain of five aliases", x, 1, ZoneLookup.LOOP, 6, 5);
        Due.key(x, 0);
        Due.looked("chain of six aliases", x, 1, ZoneLookup.LOOP, 5, 5);
        Due.key(x, 6);
        x.remove(1, 5);
        Due.key(x, 2);
        Due.looked("no name in the fifth round", x, 1, ZoneLookup.NO_NAME, 7, 5);
        Due.put(x, 4, 5, 6);
        Due.key(x, 2);
        Due.looked("handed in the fifth round", x, 1, ZoneLookup.HANDED, 7, 5);
        Due.put(x, 3, 1, 6);
        Due.key(x, 2);
        Due.looked("handed before the loop", x, 2, ZoneLookup.HANDED, 7, 5);
        Due.looked("loop for sort 4", x, 4, ZoneLookup.LOOP, 7, 5);
    }

    private static void loops() {
        ZoneLookup x = with(3, 3, 2);
        Due.put(x, 1, 5, 2);
        Due.looked("alias of itself", x, 1, ZoneLookup.LOOP, 3, 5);
        ZoneLookup y = with(3, 4, 2);
        Due.put(y, 3, 3, 3);
        Due.key(y, 2);
        Due.looked("loop of two", y, 4, ZoneLookup.LOOP, 3, 5);
        ZoneLookup z = with(3, Due.numberOf(5, 5), 7);
        Due.key(z, 1);
        Due.looked("the place is the name asked, not the star", z, 1, ZoneLookup.LOOP, Due.numberOf(5, 5), 5);
    }

    private static void lookingUpChangesNothing() {
        ZoneLookup x = with(3, 4, 2);
        Due.put(x, 1, 5, 3);
        Due.key(x, 2);
        for (int sort = 0; sort <= 5; sort++) {
            x.look(sort);
            x.place(sort);
            x.rounds(sort);
            x.value(sort, 0);
            x.exists();
            Due.due("the key stays", x.number(), 3);
        }
        Due.due("the count stays", x.add(1, 1), 3);
        x.erase();
        Due.looked("each lookup is of its own", x, 1, ZoneLookup.NO_DATA, 0, 1);
    }

    private static void eachCallLooksUpAnew() {
        ZoneLookup x = with(3, 4, 2);
        Due.put(x, 1, 5, 3);
        Due.key(x, 2);
        Due.due("place as the first call", x.place(1), 4);
        Due.due("place of another sort", x.place(3), 3);
        Due.due("rounds after another sort", x.rounds(1), 2);
        x.look(3);
        Due.due("place after another sort", x.place(1), 4);
        x.remove(3, 4);
        Due.due("rounds after remove", x.rounds(1), 1);
        Due.due("look after remove", x.look(1), ZoneLookup.NO_NAME);
        x.erase();
        Due.due("place for another key", x.place(1), 0);
        ZoneLookup y = with(3, 4, 2);
        Due.due("rounds as the first call", y.rounds(1), 2);
    }
}
