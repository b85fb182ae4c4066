/**
 * The edges that the document names before its promises: the 512 calls, names, entries, and when a
 * name exists. Each sentence has a test of its own.
 */
public final class TermsEdgesTest {
    private static final int LOW = Zones.LOW;
    private static final int HIGH = Zones.HIGH;

    public static void main(String[] args) {
        calls();
        lengths();
        labels();
        star();
        above();
        number();
        numberOfTheEmptyName();
        anyInts();
        aliasValues();
        mostOfAll();
        oneAlias();
        oneHandOver();
        threeOfEachDataSort();
        differentValues();
        noneAtTheStart();
        emptyNameExists();
        nameWithEntryExists();
        nameAboveExists();
        keyAtTheStart();
        Due.end();
    }

    private static void calls() {
        Due.sentence("An object is used for at most 512 calls after it has been made");
        Refused.Call[] last = {
            x -> x.label(2), x -> x.back(), x -> x.number(), x -> x.add(2, 6), x -> x.remove(1, 5),
            x -> x.exists(), x -> x.look(1), x -> x.place(1), x -> x.rounds(1), x -> x.value(1, 0)
        };
        int[] due = {2, 1, 2, 2, 0, 1, ZoneLookup.FOUND, 2, 1, 5};
        for (int i = 0; i < last.length; i++) {
            Due.due("call 512 after labels", last[i].on(used(x -> x.label(3), 2, x -> x.back(), 3)), due[i]);
            Due.due("call 512 after entries", last[i].on(used(x -> x.add(3, 4), 2, x -> x.remove(3, 4), 1)), due[i]);
            Due.due("call 512 after lookups", last[i].on(used(x -> x.look(2), 2, x -> x.value(1, 0), 5)), due[i]);
            Due.due("call 512 after refusals", last[i].on(used(x -> x.add(0, 1), -1, x -> x.remove(1, 6), -1)), due[i]);
        }
    }

    /** An object after 511 calls, most of them the two that are given, by turns. */
    private static ZoneLookup used(Refused.Call one, int oneDue, Refused.Call other, int otherDue) {
        ZoneLookup x = new ZoneLookup();
        x.label(1);
        x.add(1, 5);
        x.number();
        for (int call = 4; call <= 511; call += 2) {
            Due.due("call " + call, one.on(x), oneDue);
            Due.due("call " + (call + 1), other.on(x), otherDue);
        }
        return x;
    }

    private static void lengths() {
        Due.sentence("NAMES are rows of 0 to 4 LABELS, the topmost first");
        int[][] names = {{}, {1}, {1, 2}, {1, 2, 3}, {1, 2, 3, 4}};
        for (int[] name : names) {
            ZoneLookup x = new ZoneLookup();
            for (int i = 0; i < name.length; i++) {
                Due.due("label", x.label(name[i]), i + 1);
            }
            Due.due("add", x.add(1, 5), 1);
            Due.due("exists()", x.exists(), 1);
            Due.looked("a name of " + name.length, x, 1, ZoneLookup.FOUND, Due.numberOf(name), 1);
            Due.due("value", x.value(1, 0), 5);
        }
        ZoneLookup x = new ZoneLookup();
        Due.put(x, 1, 5, 1, 2, 3, 4);
        Due.due("a fifth label", x.label(0), -1);
        Due.key(x, 4, 3, 2, 1);
        Due.due("the labels the other way round", x.exists(), 0);
    }

    private static void labels() {
        Due.sentence("labels are 0 to 7");
        for (int at = 0; at < 4; at++) {
            for (int label = 0; label < 8; label++) {
                ZoneLookup x = new ZoneLookup();
                int[] name = {3, 3, 3, 3};
                name[at] = label;
                Due.put(x, 1, 5, name);
                for (int other = 0; other < 8; other++) {
                    name[at] = other;
                    Due.key(x, name);
                    Due.due("exists() of " + x.number(), x.exists(), other == label ? 1 : 0);
                }
            }
        }
    }

    private static void star() {
        Due.sentence("label 7 is the STAR");
        int[][] above = {{}, {2}, {2, 2}, {2, 2, 2}};
        for (int[] upper : above) {
            for (int label = 0; label < 8; label++) {
                ZoneLookup x = new ZoneLookup();
                Due.key(x, upper);
                x.label(label);
                x.add(1, 5);
                int held = x.number();
                x.back();
                x.label((label + 3) % 7);
                if (label == 7) {
                    Due.looked("the star", x, 1, ZoneLookup.FOUND, held, 1);
                } else {
                    Due.looked("no star", x, 1, ZoneLookup.NO_NAME, x.number(), 1);
                }
            }
        }
    }

    private static void above() {
        Due.sentence("A name is ABOVE another one if it is a shorter beginning of it");
        ZoneLookup x = new ZoneLookup();
        Due.put(x, 1, 5, 1, 2, 3);
        ZoneLookup y = new ZoneLookup();
        Due.put(y, 4, 6, 1, 2, 3);
        int[][] beginnings = {{}, {1}, {1, 2}};
        for (int[] name : beginnings) {
            Due.key(x, name);
            Due.due("exists() above", x.exists(), 1);
            Due.key(y, name);
            Due.looked("a hand-over below", y, 1, ZoneLookup.NO_DATA, Due.numberOf(name), 1);
        }
        int[][] others = {{0}, {2}, {3}, {2, 3}, {1, 3}, {0, 1}, {0, 1, 2}, {3, 2, 1}, {1, 2, 2}, {1, 2, 4}, {2, 1, 2, 3}, {0, 1, 2, 3}};
        for (int[] name : others) {
            Due.key(x, name);
            Due.due("exists() beside, " + x.number(), x.exists(), 0);
            Due.key(y, name);
            Due.looked("a hand-over beside", y, 1, ZoneLookup.NO_NAME, Due.numberOf(name), 1);
        }
        for (int label = 0; label < 8; label++) {
            Due.key(x, 1, 2, 3, label);
            Due.due("exists() below", x.exists(), 0);
            Due.key(y, 1, 2, 3, label);
            Due.looked("a hand-over above", y, 1, ZoneLookup.HANDED, Due.numberOf(1, 2, 3), 1);
        }
    }

    private static void number() {
        Due.sentence("start with 0; for each label in order, multiply by 9 and add the label plus 1");
        int names = 0;
        for (int length = 0, many = 1; length <= 4; length++, many *= 8) {
            for (int i = 0; i < many; i++, names++) {
                ZoneLookup x = new ZoneLookup();
                int want = 0;
                for (int at = 0, rest = i; at < length; at++, rest /= 8) {
                    x.label(rest % 8);
                    want = want * 9 + rest % 8 + 1;
                }
                Due.due("number() of " + length + " labels", x.number(), want);
            }
        }
        Due.due("all names", names, 1 + 8 + 64 + 512 + 4096);
        ZoneLookup x = new ZoneLookup();
        Due.key(x, 0);
        Due.due("the least of one label", x.number(), 1);
        Due.key(x, 0, 0, 0, 0);
        Due.due("the least of four labels", x.number(), 820);
        Due.key(x, 7, 7, 7, 7);
        Due.due("the greatest", x.number(), 6560);
    }

    private static void numberOfTheEmptyName() {
        Due.sentence("(The empty name has the number 0.)");
        ZoneLookup x = new ZoneLookup();
        Due.due("new", x.number(), 0);
        Due.due("the place", x.place(1), 0);
        Due.due("as an alias's value", x.add(3, 0), 1);
        Due.due("the value", x.value(3, 0), 0);
        x.label(0);
        Due.due("label 0 is not empty", x.number(), 1);
        x.back();
        Due.due("empty again", x.number(), 0);
    }

    private static void anyInts() {
        Due.sentence("Values of data and hand-overs are any ints");
        int[] values = {LOW, LOW + 1, -6560, -1, 0, 1, 9, 6561, 65536, HIGH - 1, HIGH};
        for (int sort : new int[] {1, 2, 4}) {
            for (int value : values) {
                ZoneLookup x = new ZoneLookup();
                x.label(1);
                Due.due("add(" + sort + ", " + value + ")", x.add(sort, value), 1);
                Due.due("value(" + sort + ", 0)", x.value(sort, 0), value);
                Due.due("remove, one less", x.remove(sort, value - 1), -1);
                Due.due("remove, one more", x.remove(sort, value + 1), -1);
                Due.due("remove(" + sort + ", " + value + ")", x.remove(sort, value), 0);
            }
        }
    }

    private static void aliasValues() {
        Due.sentence("the value of an alias is the number of a name");
        int[][] names = {{}, {0}, {7}, {0, 0}, {7, 7}, {0, 0, 0}, {7, 7, 7}, {0, 0, 0, 0}, {7, 7, 7, 7}};
        for (int[] name : names) {
            ZoneLookup x = new ZoneLookup();
            x.label(3);
            Due.due("add(3, number)", x.add(3, Due.numberOf(name)), 1);
            Due.due("value(3, 0)", x.value(3, 0), Due.numberOf(name));
            Due.looked("to a name of " + name.length, x, 1,
                    name.length == 0 ? ZoneLookup.NO_DATA : ZoneLookup.NO_NAME, Due.numberOf(name), 2);
        }
        for (int value : new int[] {-1, 9, 81, 729, 6561, LOW, HIGH}) {
            Refused.due("add(3, " + value + ")", x -> x.label(3), x -> x.add(3, value), -1);
        }
    }

    private static void mostOfAll() {
        Due.sentence("At most 24 entries are held");
        for (int sort = 1; sort <= 4; sort++) {
            ZoneLookup x = new ZoneLookup();
            Zones.full(x);
            Due.key(x, 0);
            Due.due("remove of 24", x.remove(sort, 1), 23);
            Due.key(x, 6, 6, 6, 6);
            Due.due("the 24th, of sort " + sort, x.add(sort, 5), 24);
            Due.due("the 25th, of sort " + sort, x.add(sort, 4), -1);
            Due.looked("the 24th is held", x, sort, ZoneLookup.FOUND, Due.numberOf(6, 6, 6, 6), 1);
            Due.due("the 24th's value", x.value(sort, 0), 5);
            Due.due("remove the 24th", x.remove(sort, 5), 23);
        }
        ZoneLookup x = new ZoneLookup();
        for (int i = 0; i < 24; i++) {
            Due.key(x, 4, i / 8, i % 8);
            Due.due("one for each name", x.add(1, 9), i + 1);
        }
        for (int i = 0; i < 24; i++) {
            Due.key(x, 4, i / 8, i % 8);
            Due.due("all 24 are held", x.value(1, 0), 9);
        }
        Due.key(x, 4, 3, 0);
        Due.due("the 25th", x.add(1, 9), -1);
        Due.due("the 25th isn't held", x.exists(), 0);
    }

    private static void oneAlias() {
        Due.sentence("a name has at most one alias entry");
        Refused.Steps before = x -> Due.put(x, 3, 5, 1);
        for (int value : new int[] {5, 4, 0, 6560}) {
            Refused.due("the second alias, " + value, before, x -> x.add(3, value), -1);
        }
        ZoneLookup x = new ZoneLookup();
        Due.put(x, 3, 5);
        Due.put(x, 3, 5, 1);
        Due.key(x, 1, 1);
        Due.due("the alias of another name", x.add(3, 5), 3);
        Due.due("hand-over beside it", x.add(4, 5), 4);
        Due.due("data beside it", x.add(1, 5), 5);
        x.remove(3, 5);
        Due.due("another in its room", x.add(3, 4), 5);
    }

    private static void oneHandOver() {
        Due.sentence("at most one hand-over entry");
        Refused.Steps before = x -> Due.put(x, 4, 5, 1);
        for (int value : new int[] {5, 4, 0, LOW, HIGH}) {
            Refused.due("the second hand-over, " + value, before, x -> x.add(4, value), -1);
        }
        ZoneLookup x = new ZoneLookup();
        Due.put(x, 4, 5);
        Due.put(x, 4, 5, 1);
        Due.key(x, 1, 1);
        Due.due("the hand-over of another name", x.add(4, 5), 3);
        Due.due("alias beside it", x.add(3, 5), 4);
        Due.due("data beside it", x.add(1, 5), 5);
        x.remove(4, 5);
        Due.due("another in its room", x.add(4, 4), 5);
    }

    private static void threeOfEachDataSort() {
        Due.sentence("of each data sort at most 3 entries");
        for (int sort = 1; sort <= 2; sort++) {
            int full = sort;
            Refused.Steps before = x -> {
                Due.put(x, full, 1, 1);
                Due.put(x, full, LOW, 1);
                Due.put(x, full, HIGH, 1);
            };
            Refused.due("the fourth", before, x -> x.add(full, 2), -1);
            ZoneLookup x = new ZoneLookup();
            before.on(x);
            Due.due("the third is held", x.value(full, 2), HIGH);
            Due.due("the other sort", x.add(3 - full, 1), 4);
            Due.due("the other sort, second", x.add(3 - full, 2), 5);
            Due.due("the other sort, third", x.add(3 - full, 3), 6);
            Due.due("the other sort, fourth", x.add(3 - full, 4), -1);
            x.remove(full, LOW);
            Due.due("another in the room of one", x.add(full, 2), 6);
            Due.due("and no more", x.add(full, 3), -1);
            x.label(1);
            Due.due("another name", x.add(full, 1), 7);
        }
    }

    private static void differentValues() {
        Due.sentence("with different values");
        for (int sort = 1; sort <= 2; sort++) {
            int same = sort;
            for (int value : new int[] {0, -1, LOW, HIGH}) {
                Refused.due("the same value", x -> Due.put(x, same, value, 1), x -> x.add(same, value), -1);
            }
            ZoneLookup x = new ZoneLookup();
            Due.put(x, same, 5, 1);
            Due.due("another value", x.add(same, 6), 2);
            Due.due("the first one's again", x.add(same, 5), -1);
            Due.due("the second one's again", x.add(same, 6), -1);
            Due.due("the same for the other sort", x.add(3 - same, 5), 3);
            x.label(1);
            Due.due("the same for a name below", x.add(same, 5), 4);
        }
    }

    private static void noneAtTheStart() {
        Due.sentence("At the start there is none.");
        for (int length = 0; length <= 4; length++) {
            ZoneLookup x = new ZoneLookup();
            for (int i = 0; i < length; i++) {
                x.label(0);
            }
            for (int sort = 1; sort <= 4; sort++) {
                Due.due("remove(" + sort + ", 0)", x.remove(sort, 0), -1);
                Due.looked("no entry", x, sort, length == 0 ? ZoneLookup.NO_DATA : ZoneLookup.NO_NAME, x.number(), 1);
            }
            Due.due("exists()", x.exists(), length == 0 ? 1 : 0);
            Due.due("the first add", x.add(1, 0), 1);
        }
    }

    private static void emptyNameExists() {
        Due.sentence("A name EXISTS if it is empty");
        ZoneLookup x = new ZoneLookup();
        Due.due("without entries", x.exists(), 1);
        Due.looked("without entries", x, 1, ZoneLookup.NO_DATA, 0, 1);
        x.add(1, 5);
        Due.due("with an entry", x.exists(), 1);
        x.remove(1, 5);
        Due.due("when its entry is gone", x.exists(), 1);
        Due.put(x, 1, 5, 7);
        x.erase();
        Due.due("with an entry below", x.exists(), 1);
        Due.looked("no star for it", x, 1, ZoneLookup.NO_DATA, 0, 1);
    }

    private static void nameWithEntryExists() {
        Due.sentence("or has an entry");
        int[][] names = {{0}, {7}, {0, 0}, {7, 7}, {0, 0, 0}, {0, 0, 0, 0}, {7, 7, 7, 7}};
        for (int[] name : names) {
            for (int sort = 1; sort <= 4; sort++) {
                ZoneLookup x = new ZoneLookup();
                Due.key(x, name);
                Due.due("before", x.exists(), 0);
                x.add(sort, 0);
                Due.due("with an entry of sort " + sort, x.exists(), 1);
                x.add(sort % 4 + 1, 0);
                x.remove(sort, 0);
                Due.due("with one of two left", x.exists(), 1);
                x.remove(sort % 4 + 1, 0);
                Due.due("with none left", x.exists(), 0);
            }
        }
    }

    private static void nameAboveExists() {
        Due.sentence("or is above a name that has one");
        for (int sort = 1; sort <= 4; sort++) {
            ZoneLookup x = new ZoneLookup();
            Due.put(x, sort, 0, 0, 7, 0, 7);
            for (int length = 3; length >= 1; length--) {
                x.back();
                Due.due("above, " + length + " labels", x.exists(), 1);
            }
            Due.key(x, 0, 7);
            x.add(1, 0);
            Due.key(x, 0, 7, 0, 7);
            x.remove(sort, 0);
            int[] due = {1, 1, 0, 0};
            for (int length = 4; length >= 1; length--) {
                Due.due("gone, " + length + " labels", x.exists(), due[length - 1]);
                x.back();
            }
        }
    }

    private static void keyAtTheStart() {
        Due.sentence("THE KEY is a name, empty at the start, that the calls are about.");
        Due.due("number()", new ZoneLookup().number(), 0);
        Due.due("back()", new ZoneLookup().back(), -1);
        Due.due("label", new ZoneLookup().label(0), 1);
        Due.due("exists()", new ZoneLookup().exists(), 1);
        Due.due("place(1)", new ZoneLookup().place(1), 0);
        ZoneLookup x = new ZoneLookup();
        x.add(1, 5);
        x.erase();
        Due.due("the entry is the empty name's", x.value(1, 0), 5);
    }
}
