/** The edges that promises 1 to 5 name, each sentence with a test of its own. */
public final class KeyEdgesTest {
    private static final int LOW = Zones.LOW;
    private static final int HIGH = Zones.HIGH;

    public static void main(String[] args) {
        newObject();
        labelIsMasked();
        labelAnswers();
        labelOfAFullKey();
        backAnswers();
        backOfAnEmptyKey();
        erase();
        number();
        Due.end();
    }

    private static void newObject() {
        Due.sentence("No entry; the key is empty.");
        ZoneLookup used = new ZoneLookup();
        Zones.full(used);
        ZoneLookup x = new ZoneLookup();
        Due.due("number()", x.number(), 0);
        Due.due("back()", x.back(), -1);
        for (int sort = 1; sort <= 4; sort++) {
            Due.looked("no entry", x, sort, ZoneLookup.NO_DATA, 0, 1);
            Due.due("value(" + sort + ", 0)", x.value(sort, 0), 0);
            Due.due("remove(" + sort + ", 0)", x.remove(sort, 0), -1);
        }
        for (int label = 0; label < 8; label++) {
            Due.key(x, label);
            Due.due("exists() of " + label, x.exists(), 0);
        }
        for (int i = 0; i < 24; i++) {
            Due.key(x, i % 8);
            Due.due("room for 24", x.add(1, i), i + 1);
        }
        Due.due("no room for 25", x.add(1, 24), -1);
    }

    private static void labelIsMasked() {
        Due.sentence("Adds the label label & 7 at the end of the key.");
        for (int given = -64; given <= 64; given++) {
            masked(given);
        }
        for (int bit = 3; bit < 32; bit++) {
            masked(1 << bit);
            masked((1 << bit) - 1);
            masked((1 << bit) + 5);
            masked(-(1 << bit) - 3);
        }
        masked(LOW);
        masked(LOW + 1);
        masked(HIGH);
        masked(HIGH - 1);
    }

    private static void masked(int given) {
        // The remainder that isn't negative, worked out without the mask.
        int taken = (int) ((given + 4294967296L) % 8);
        ZoneLookup x = new ZoneLookup();
        Due.due("label(" + given + ")", x.label(given), 1);
        Due.due("number() after label(" + given + ")", x.number(), taken + 1);
        Due.due("label(" + given + ") again", x.label(given), 2);
        Due.due("number() after both", x.number(), Due.numberOf(taken, taken));
        Due.due("back() after label(" + given + ")", x.back(), taken);
    }

    private static void labelAnswers() {
        Due.sentence("Answers how many labels it has then");
        for (int label = 0; label < 8; label++) {
            ZoneLookup x = new ZoneLookup();
            for (int count = 1; count <= 4; count++) {
                Due.due("label " + count, x.label(label), count);
            }
            x.back();
            Due.due("after back()", x.label(label), 4);
            x.back();
            x.back();
            x.back();
            Due.due("after back() thrice", x.label(label), 2);
            x.erase();
            Due.due("after erase()", x.label(label), 1);
        }
    }

    private static void labelOfAFullKey() {
        Due.sentence("-1, and changes nothing, if it has 4.");
        int[][] keys = {{0, 0, 0, 0}, {7, 7, 7, 7}, {1, 2, 3, 4}, {1, 2, 3, 5}, {3, 1, 0, 0}};
        for (int[] key : keys) {
            for (int label : new int[] {0, 1, 7, 8, -1, LOW, HIGH}) {
                Refused.due("label(" + label + ")", x -> {
                    Zones.mixed(x);
                    Due.key(x, key);
                }, x -> x.label(label), -1);
            }
            ZoneLookup x = new ZoneLookup();
            Due.key(x, key);
            Due.due("the fifth label", x.label(6), -1);
            Due.due("number()", x.number(), Due.numberOf(key));
            Due.due("back()", x.back(), key[3]);
            Due.due("the fourth label", x.label(6), 4);
            Due.due("the fifth label again", x.label(5), -1);
        }
    }

    private static void backAnswers() {
        Due.sentence("Takes the last label off the key. Answers it");
        for (int length = 1; length <= 4; length++) {
            for (int label = 0; label < 8; label++) {
                ZoneLookup x = new ZoneLookup();
                for (int i = 1; i < length; i++) {
                    x.label(7 - label);
                }
                int before = x.number();
                x.label(label);
                Due.due("back() of " + length + " labels", x.back(), label);
                Due.due("number() after", x.number(), before);
                Due.due("label after", x.label(0), length);
            }
        }
    }

    private static void backOfAnEmptyKey() {
        Due.sentence("-1 if the key is empty.");
        Refused.due("new", x -> { }, x -> x.back(), -1);
        Refused.due("after erase()", x -> {
            Zones.mixed(x);
            x.erase();
        }, x -> x.back(), -1);
        Refused.due("after the last back()", x -> {
            Zones.mixed(x);
            Due.key(x, 0, 0);
            x.back();
            x.back();
        }, x -> x.back(), -1);
        ZoneLookup x = new ZoneLookup();
        Due.due("back()", x.back(), -1);
        Due.due("number()", x.number(), 0);
        Due.due("label", x.label(0), 1);
        Due.due("label 0 is not empty", x.back(), 0);
        Due.due("back() again", x.back(), -1);
    }

    private static void erase() {
        Due.sentence("Makes the key empty.");
        int[][] keys = {{}, {0}, {7, 7}, {0, 0, 0}, {7, 7, 7, 7}};
        for (int[] key : keys) {
            ZoneLookup x = new ZoneLookup();
            Zones.mixed(x);
            Due.key(x, key);
            x.erase();
            Due.due("number()", x.number(), 0);
            Due.due("back()", x.back(), -1);
            x.erase();
            Due.due("number() after a second", x.number(), 0);
            for (int count = 1; count <= 4; count++) {
                Due.due("label after", x.label(1), count);
            }
        }
        // With keys set by label and back alone, since erase is what is tested.
        for (int times = 1; times <= 3; times++) {
            ZoneLookup x = new ZoneLookup();
            x.label(1);
            x.add(1, 5);
            for (int time = 1; time <= times; time++) {
                x.erase();
            }
            Due.due("the entries stay", x.add(1, 6), 2);
            x.label(1);
            Due.due("the entries stay", x.value(1, 0), 5);
            Due.due("the entries stay", x.remove(1, 5), 1);
        }
    }

    private static void number() {
        Due.sentence("The number of the key.");
        int[][] keys = {{}, {0}, {7}, {0, 0, 0, 0}, {7, 7, 7, 7}, {1, 2, 3}};
        int[] numbers = {0, 1, 8, 820, 6560, 193};
        for (int i = 0; i < keys.length; i++) {
            int[] key = keys[i];
            Refused.due("number() of " + key.length + " labels", x -> {
                Zones.mixed(x);
                Due.key(x, key);
            }, x -> x.number(), numbers[i]);
        }
    }
}
