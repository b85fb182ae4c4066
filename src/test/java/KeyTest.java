/** Promises 1 to 5: a new object, label, back, erase, number. */
public final class KeyTest {
    public static void main(String[] args) {
        newObject();
        objectsAreApart();
        label();
        labelIsMasked();
        back();
        erase();
        number();
        keyCallsLeaveEntries();
        Due.end();
    }

    private static void newObject() {
        ZoneLookup x = new ZoneLookup();
        Due.due("new: number()", x.number(), 0);
        Due.due("new: exists()", x.exists(), 1);
        for (int sort = 1; sort <= 4; sort++) {
            Due.looked("new", x, sort, ZoneLookup.NO_DATA, 0, 1);
            Due.due("new: value", x.value(sort, 0), 0);
            Due.due("new: remove", x.remove(sort, 0), -1);
        }
        for (int label = 0; label < 8; label++) {
            Due.key(x, label);
            Due.due("new: exists() of a label", x.exists(), 0);
        }
        x.erase();
        Due.due("new: back()", x.back(), -1);
        Due.due("new: add is the first", x.add(1, 0), 1);
    }

    private static void objectsAreApart() {
        ZoneLookup x = new ZoneLookup();
        ZoneLookup y = new ZoneLookup();
        x.label(3);
        x.add(1, 5);
        Due.due("apart: number()", y.number(), 0);
        Due.due("apart: add", y.add(1, 5), 1);
    }

    private static void label() {
        ZoneLookup x = new ZoneLookup();
        Due.due("label 1st", x.label(0), 1);
        Due.due("label 2nd", x.label(7), 2);
        Due.due("label 3rd", x.label(0), 3);
        Due.due("label 4th", x.label(5), 4);
        int full = Due.numberOf(0, 7, 0, 5);
        Due.due("full: number()", x.number(), full);
        Due.due("full: label", x.label(0), -1);
        Due.due("full: label again", x.label(6), -1);
        Due.due("full: number() after", x.number(), full);
        Due.due("full: back()", x.back(), 5);
        Due.due("label after back", x.label(2), 4);
        Due.due("label after back: number()", x.number(), Due.numberOf(0, 7, 0, 2));
    }

    private static void labelIsMasked() {
        int[] given = {8, 15, 16, 100, -1, -8, Integer.MAX_VALUE, Integer.MIN_VALUE};
        int[] taken = {0, 7, 0, 4, 7, 0, 7, 0};
        for (int i = 0; i < given.length; i++) {
            ZoneLookup x = new ZoneLookup();
            Due.due("label(" + given[i] + ")", x.label(given[i]), 1);
            Due.due("number() after label(" + given[i] + ")", x.number(), taken[i] + 1);
            Due.due("back() after label(" + given[i] + ")", x.back(), taken[i]);
        }
    }

    private static void back() {
        ZoneLookup x = new ZoneLookup();
        Due.key(x, 0, 7, 3, 6);
        Due.due("back() 1st", x.back(), 6);
        Due.due("back() 1st: number()", x.number(), Due.numberOf(0, 7, 3));
        Due.due("back() 2nd", x.back(), 3);
        Due.due("back() 3rd", x.back(), 7);
        Due.due("back() 4th", x.back(), 0);
        Due.due("back() of empty", x.back(), -1);
        Due.due("back() of empty again", x.back(), -1);
        Due.due("back() of empty: number()", x.number(), 0);
        Due.due("label after back() of empty", x.label(1), 1);
    }

    private static void erase() {
        ZoneLookup x = new ZoneLookup();
        x.erase();
        Due.due("erase of empty: number()", x.number(), 0);
        Due.key(x, 1, 2, 3, 4);
        x.erase();
        Due.due("erase: number()", x.number(), 0);
        Due.due("erase: back()", x.back(), -1);
        Due.due("erase: label", x.label(2), 1);
        Due.due("erase: number() after label", x.number(), 3);
    }

    private static void number() {
        ZoneLookup x = new ZoneLookup();
        Due.key(x, 0);
        Due.due("number() of 0", x.number(), 1);
        Due.key(x, 7);
        Due.due("number() of 7", x.number(), 8);
        Due.key(x, 0, 0);
        Due.due("number() of 0.0", x.number(), 10);
        Due.key(x, 1, 2, 3);
        Due.due("number() of 1.2.3", x.number(), 193);
        Due.key(x, 0, 0, 0, 0);
        Due.due("number() of 0.0.0.0", x.number(), 820);
        Due.key(x, 7, 7, 7, 7);
        Due.due("number() of 7.7.7.7", x.number(), 6560);
    }

    private static void keyCallsLeaveEntries() {
        ZoneLookup x = new ZoneLookup();
        Due.key(x, 4, 4);
        x.add(1, 9);
        x.back();
        x.erase();
        Due.key(x, 4, 4);
        Due.looked("entries stay", x, 1, ZoneLookup.FOUND, Due.numberOf(4, 4), 1);
        Due.due("entries stay: add", x.add(1, 8), 2);
    }
}
