import java.util.Arrays;

/** The edges that the document names in the rounds (a) to (d), each sentence with a test of its own. */
public final class RoundsEdgesTest {
    public static void main(String[] args) {
        firstRound();
        sortFourIsNotHanded();
        sameOrAbove();
        notTheEmptyName();
        shortest();
        handedEnds();
        nameThatExists();
        longestAbove();
        starAtItsEnd();
        noName();
        aliasOfThePlace();
        sortThreeIsNotFollowed();
        fifthRound();
        nextRound();
        found();
        noData();
        Due.end();
    }

    private static void firstRound() {
        Due.sentence("LOOKING UP a sort (1 to 4) for a name n goes in ROUNDS, the first with the name q = n.");
        ZoneLookup x = new ZoneLookup();
        for (int sort = 1; sort <= 4; sort++) {
            Due.put(x, sort, 0);
            Due.put(x, sort, 0, 7, 7, 7, 7);
        }
        x.remove(4, 0);
        Due.looked("sort 3, the greatest name", x, 3, ZoneLookup.FOUND, 6560, 1);
        x.remove(3, 0);
        Due.looked("sort 1, the greatest name", x, 1, ZoneLookup.FOUND, 6560, 1);
        Due.looked("sort 4, the greatest name", x, 4, ZoneLookup.NO_DATA, 6560, 1);
        x.erase();
        Due.looked("sort 3, the empty name", x, 3, ZoneLookup.FOUND, 0, 1);
        x.remove(3, 0);
        Due.looked("sort 1, the empty name", x, 1, ZoneLookup.FOUND, 0, 1);
        Due.looked("sort 4, the empty name", x, 4, ZoneLookup.FOUND, 0, 1);
    }

    private static void sortFourIsNotHanded() {
        Due.sentence("(a) If the sort is not 4");
        ZoneLookup x = new ZoneLookup();
        Due.put(x, 4, 70, 1);
        Due.put(x, 2, 5, 1, 1);
        int[][] names = {{1}, {1, 1}, {1, 2}};
        int[] answers = {ZoneLookup.FOUND, ZoneLookup.NO_DATA, ZoneLookup.NO_NAME};
        for (int i = 0; i < names.length; i++) {
            Due.key(x, names[i]);
            for (int sort = 1; sort <= 3; sort++) {
                Due.looked("not 4", x, sort, ZoneLookup.HANDED, 2, 1);
            }
            Due.looked("4", x, 4, answers[i], Due.numberOf(names[i]), 1);
        }
    }

    private static void sameOrAbove() {
        Due.sentence("some name that has a hand-over entry is q or above q");
        int[] q = {0, 7, 0, 7};
        for (int length = 1; length <= 4; length++) {
            int[] upper = Arrays.copyOf(q, length);
            ZoneLookup x = new ZoneLookup();
            Due.put(x, 4, 70, upper);
            for (int asked = 0; asked <= 4; asked++) {
                int[] name = Arrays.copyOf(q, asked);
                Due.key(x, name);
                if (asked >= length) {
                    Due.looked("q or above q", x, 1, ZoneLookup.HANDED, Due.numberOf(upper), 1);
                } else {
                    Due.looked("below q", x, 1, ZoneLookup.NO_DATA, Due.numberOf(name), 1);
                }
            }
            upper[length - 1] = 3;
            Due.key(x, upper);
            Due.due("beside q", x.look(1) == ZoneLookup.HANDED ? 1 : 0, 0);
        }
        ZoneLookup x = new ZoneLookup();
        Due.put(x, 4, 70, 7);
        Due.key(x, 1);
        Due.looked("a star is not above q", x, 1, ZoneLookup.NO_DATA, 8, 1);
    }

    private static void notTheEmptyName() {
        Due.sentence("(and is not the empty name)");
        ZoneLookup x = new ZoneLookup();
        Due.put(x, 4, 70);
        for (int sort = 1; sort <= 3; sort++) {
            Due.looked("q is empty", x, sort, ZoneLookup.NO_DATA, 0, 1);
        }
        Due.looked("q is empty, sort 4", x, 4, ZoneLookup.FOUND, 0, 1);
        Due.key(x, 0);
        Due.looked("q is below it", x, 1, ZoneLookup.NO_NAME, 1, 1);
        Due.put(x, 1, 5, 7);
        Due.key(x, 0, 0, 0, 0);
        Due.looked("q is far below it", x, 1, ZoneLookup.FOUND, 8, 1);
        Due.put(x, 3, 0, 2);
        Due.looked("by an alias to it", x, 1, ZoneLookup.NO_DATA, 0, 2);
    }

    private static void shortest() {
        Due.sentence("with the SHORTEST such name as the place");
        int[] q = {7, 0, 7, 0};
        for (int some = 1; some < 32; some++) {
            // Both orders of adding, since the place must not hang on the order.
            for (int order = 0; order < 2; order++) {
                ZoneLookup x = new ZoneLookup();
                int shortest = 0;
                for (int i = 0; i <= 4; i++) {
                    int length = order == 0 ? i : 4 - i;
                    if ((some >> length & 1) == 1) {
                        Due.put(x, 4, length, Arrays.copyOf(q, length));
                        shortest = length > 0 && (shortest == 0 || length < shortest) ? length : shortest;
                    }
                }
                Due.key(x, q);
                if (shortest > 0) {
                    Due.looked("of several", x, 1, ZoneLookup.HANDED, Due.numberOf(Arrays.copyOf(q, shortest)), 1);
                    Due.due("its value", x.value(1, 0), shortest);
                } else {
                    Due.looked("of the empty name alone", x, 1, ZoneLookup.NO_NAME, Due.numberOf(q), 1);
                }
            }
        }
    }

    private static void handedEnds() {
        Due.sentence("the answer is HANDED");
        for (int round = 1; round <= 5; round++) {
            ZoneLookup x = new ZoneLookup();
            Zones.chain(x, round - 1);
            Due.put(x, 4, 70, round - 1);
            Due.put(x, 3, 1, round - 1);
            Due.put(x, 1, 5, round - 1);
            Due.key(x, 0);
            Due.looked("before alias and data", x, 1, ZoneLookup.HANDED, round, round);
        }
        ZoneLookup x = new ZoneLookup();
        Due.put(x, 4, 70, 1);
        Due.put(x, 1, 5, 1, 7);
        Due.key(x, 1, 2);
        Due.looked("before the star", x, 1, ZoneLookup.HANDED, 2, 1);
        Due.key(x, 1, 7, 1);
        Due.looked("before the missing name", x, 1, ZoneLookup.HANDED, 2, 1);
    }

    private static void nameThatExists() {
        Due.sentence("(b) Else let r be q if q exists");
        ZoneLookup x = new ZoneLookup();
        Due.put(x, 1, 5, 7);
        Due.put(x, 1, 6, 1, 7);
        Due.put(x, 2, 7, 1, 2, 3);
        x.erase();
        Due.looked("q is empty", x, 1, ZoneLookup.NO_DATA, 0, 1);
        Due.key(x, 1, 2);
        Due.looked("q is only above", x, 1, ZoneLookup.NO_DATA, Due.numberOf(1, 2), 1);
        Due.key(x, 1, 2, 3);
        Due.looked("q has another sort", x, 1, ZoneLookup.NO_DATA, Due.numberOf(1, 2, 3), 1);
        Due.key(x, 1, 7);
        Due.looked("q is a star", x, 1, ZoneLookup.FOUND, Due.numberOf(1, 7), 1);
        Due.key(x, 1, 2, 3);
        x.remove(2, 7);
        Due.key(x, 1, 2);
        Due.looked("q exists no more", x, 1, ZoneLookup.FOUND, Due.numberOf(1, 7), 1);
    }

    private static void longestAbove() {
        Due.sentence("else take the longest name above q that exists");
        int[] q = {2, 2, 2, 2};
        for (int longest = 0; longest <= 3; longest++) {
            ZoneLookup x = new ZoneLookup();
            for (int length = 0; length <= longest; length++) {
                int[] star = Arrays.copyOf(q, length + 1);
                star[length] = 7;
                Due.put(x, 1, length, star);
            }
            int[] star = Arrays.copyOf(q, longest + 1);
            star[longest] = 7;
            Due.key(x, q);
            Due.looked("its star", x, 1, ZoneLookup.FOUND, Due.numberOf(star), 1);
            Due.put(x, 2, 5, Arrays.copyOf(q, longest));
            Due.key(x, star);
            x.remove(1, longest);
            Due.key(x, q);
            Due.looked("no star of a shorter one", x, 1, ZoneLookup.NO_NAME, Due.numberOf(q), 1);
        }
        ZoneLookup x = new ZoneLookup();
        Due.put(x, 1, 5, 7);
        Due.put(x, 1, 5, 2, 3, 4);
        Due.key(x, 2, 2);
        Due.looked("the longest is only above", x, 1, ZoneLookup.NO_NAME, Due.numberOf(2, 2), 1);
    }

    private static void starAtItsEnd() {
        Due.sentence("put the star at its end, and let r be that name if it exists");
        for (int sort = 1; sort <= 4; sort++) {
            ZoneLookup x = new ZoneLookup();
            Due.put(x, sort, 0, 2, 7);
            Due.key(x, 2, 0);
            Due.due("it has an entry", x.look(sort), ZoneLookup.FOUND);
            Due.due("it has an entry", x.place(sort), Due.numberOf(2, 7));
        }
        ZoneLookup x = new ZoneLookup();
        Due.put(x, 1, 5, 2, 7, 4);
        Due.key(x, 2, 0);
        Due.looked("it is above an entry", x, 1, ZoneLookup.NO_DATA, Due.numberOf(2, 7), 1);
        Due.key(x, 2, 0, 4);
        Due.looked("the star is not in the middle", x, 1, ZoneLookup.NO_DATA, Due.numberOf(2, 7), 1);
        Due.key(x, 2, 7, 0);
        Due.looked("a star that is above q", x, 1, ZoneLookup.NO_NAME, Due.numberOf(2, 7, 0), 1);
        Due.key(x, 0);
        Due.looked("it does not exist", x, 1, ZoneLookup.NO_NAME, 1, 1);
        Due.put(x, 1, 6, 3, 3, 3, 7);
        Due.key(x, 3, 3, 3, 0);
        Due.looked("it has four labels", x, 1, ZoneLookup.FOUND, Due.numberOf(3, 3, 3, 7), 1);
        Due.key(x, 7);
        Due.looked("q is the star that does not exist", x, 1, ZoneLookup.NO_NAME, 8, 1);
    }

    private static void noName() {
        Due.sentence("if it doesn't, the answer is NO_NAME, with q as the place, and the lookup ends.");
        int[][] names = {{6}, {6, 0}, {6, 6, 6}, {6, 7, 7, 7}};
        for (int[] name : names) {
            for (int round = 1; round <= 5; round++) {
                ZoneLookup x = new ZoneLookup();
                Zones.chain(x, round - 1);
                if (round > 1) {
                    Due.key(x, round - 2);
                    x.remove(3, Due.numberOf(round - 1));
                    x.add(3, Due.numberOf(name));
                    Due.key(x, 0);
                } else {
                    Due.key(x, name);
                }
                for (int sort = 1; sort <= 4; sort += 3) {
                    Due.looked("in round " + round, x, sort, ZoneLookup.NO_NAME, Due.numberOf(name), round);
                }
            }
        }
    }

    private static void aliasOfThePlace() {
        Due.sentence("(c) If r has an alias entry");
        ZoneLookup x = new ZoneLookup();
        Due.put(x, 1, 5, 5);
        Due.put(x, 1, 6, 1);
        Due.put(x, 3, Due.numberOf(5), 1);
        Due.put(x, 3, Due.numberOf(5), 2, 7);
        Due.put(x, 2, 7, 3, 3);
        Due.put(x, 3, Due.numberOf(5), 3);
        Due.key(x, 1);
        Due.looked("r is q, and has data too", x, 1, ZoneLookup.FOUND, 6, 2);
        Due.looked("r is q, sort 4", x, 4, ZoneLookup.NO_DATA, 6, 2);
        Due.key(x, 2, 0);
        Due.looked("r is a star", x, 1, ZoneLookup.FOUND, 6, 2);
        Due.key(x, 2);
        Due.looked("the alias is below r", x, 1, ZoneLookup.NO_DATA, 3, 1);
        Due.key(x, 3, 3);
        Due.looked("the alias is above r", x, 2, ZoneLookup.FOUND, Due.numberOf(3, 3), 1);
        Due.key(x, 1, 1);
        Due.looked("the alias is above q", x, 1, ZoneLookup.NO_NAME, Due.numberOf(1, 1), 1);
        Due.put(x, 3, Due.numberOf(5));
        x.erase();
        Due.looked("r is the empty name", x, 1, ZoneLookup.FOUND, 6, 2);
    }

    private static void sortThreeIsNotFollowed() {
        Due.sentence("and the sort is not 3");
        for (int count = 1; count <= 6; count++) {
            ZoneLookup x = new ZoneLookup();
            Zones.chain(x, count);
            Due.key(x, 0);
            Due.looked("the first of " + count + " aliases", x, 3, ZoneLookup.FOUND, 1, 1);
            Due.due("its value", x.value(3, 0), 2);
        }
        ZoneLookup x = new ZoneLookup();
        Due.put(x, 3, Due.numberOf(2), 2);
        Due.looked("an alias of itself", x, 3, ZoneLookup.FOUND, 3, 1);
        Due.put(x, 3, Due.numberOf(5), 7);
        Due.key(x, 5);
        Due.looked("a star's alias", x, 3, ZoneLookup.FOUND, 8, 1);
    }

    private static void fifthRound() {
        Due.sentence("if this is the fifth round, the answer is LOOP, with q as the place, and the lookup ends");
        for (int count = 1; count <= 6; count++) {
            ZoneLookup x = new ZoneLookup();
            Zones.chain(x, count);
            Due.put(x, 1, 5, count);
            Due.key(x, 0);
            if (count <= 4) {
                Due.looked(count + " aliases", x, 1, ZoneLookup.FOUND, count + 1, count + 1);
            } else {
                Due.looked(count + " aliases", x, 1, ZoneLookup.LOOP, 5, 5);
                Due.looked(count + " aliases, sort 2", x, 2, ZoneLookup.LOOP, 5, 5);
                Due.looked(count + " aliases, sort 4", x, 4, ZoneLookup.LOOP, 5, 5);
            }
        }
        ZoneLookup x = new ZoneLookup();
        Due.put(x, 1, 5);
        Due.put(x, 3, 0);
        Due.looked("the empty name's alias of itself", x, 1, ZoneLookup.LOOP, 0, 5);
        ZoneLookup y = new ZoneLookup();
        Due.put(y, 3, Due.numberOf(5, 5), 7);
        Due.key(y, 1);
        Due.looked("q, neither n nor r", y, 1, ZoneLookup.LOOP, Due.numberOf(5, 5), 5);
    }

    private static void nextRound() {
        Due.sentence("else the next round goes with the name whose number is the alias's value");
        int[][] names = {{}, {0}, {7}, {0, 0}, {7, 7}, {1, 0, 7}, {0, 0, 0, 0}, {7, 7, 7, 7}};
        for (int[] name : names) {
            ZoneLookup x = new ZoneLookup();
            Due.put(x, 3, Due.numberOf(name), 3);
            Due.put(x, 1, 5, name);
            Due.key(x, 3);
            Due.looked("to a name of " + name.length, x, 1, ZoneLookup.FOUND, Due.numberOf(name), 2);
            Due.due("the key stays", x.number(), 4);
        }
        ZoneLookup x = new ZoneLookup();
        Due.put(x, 3, Due.numberOf(1, 1), 3);
        Due.put(x, 1, 5, 1, 7);
        Due.key(x, 3);
        Due.looked("to a name that a star stands for", x, 1, ZoneLookup.FOUND, Due.numberOf(1, 7), 2);
    }

    private static void found() {
        Due.sentence("(d) Else, if r has entries of the sort, the answer is FOUND");
        for (int sort = 1; sort <= 4; sort++) {
            ZoneLookup x = new ZoneLookup();
            Due.put(x, sort, 0, 7);
            Due.looked("one entry", x, sort, ZoneLookup.FOUND, 8, 1);
            Due.key(x, 1);
            Due.looked("r is a star, not q", x, sort, ZoneLookup.FOUND, 8, 1);
            Due.key(x, 7);
            x.remove(sort, 0);
            Due.looked("no entry any more", x, sort, ZoneLookup.NO_NAME, 8, 1);
        }
        for (int round = 1; round <= 5; round++) {
            ZoneLookup x = new ZoneLookup();
            Zones.chain(x, round - 1);
            Due.put(x, 1, 5, round - 1);
            Due.key(x, 0);
            Due.looked("in round " + round, x, 1, ZoneLookup.FOUND, round, round);
        }
    }

    private static void noData() {
        Due.sentence("else NO_DATA, with r as the place, and the lookup ends.");
        for (int sort = 1; sort <= 4; sort++) {
            ZoneLookup x = new ZoneLookup();
            Due.looked("the empty name", x, sort, ZoneLookup.NO_DATA, 0, 1);
            Due.put(x, sort == 1 ? 2 : 1, 0, 7, 7);
            Due.looked("entries of another sort", x, sort, ZoneLookup.NO_DATA, Due.numberOf(7, 7), 1);
            Due.key(x, 7, 0, 0);
            Due.looked("r is a star, not q", x, sort, ZoneLookup.NO_DATA, Due.numberOf(7, 7), 1);
            Due.key(x, 7);
            Due.looked("entries below", x, sort, ZoneLookup.NO_DATA, 8, 1);
        }
        for (int round = 1; round <= 5; round++) {
            ZoneLookup x = new ZoneLookup();
            Zones.chain(x, round - 1);
            Due.put(x, 1, 5, round - 1);
            Due.key(x, 0);
            Due.looked("in round " + round, x, 2, ZoneLookup.NO_DATA, round, round);
        }
    }
}
