/** What the project's tests share: comparing answers, setting the key, and making entries. */
final class Due {
    private static int wrong = 0;
    private static int sentences = 0;
    private static String sentence = "";

    private Due() {
    }

    /** The words of the document that the answers from here on are about. */
    static void sentence(String words) {
        sentences++;
        sentence = "\"" + words + "\": ";
    }

    static void due(String call, long got, long want) {
        if (got != want) {
            wrong++;
            System.out.println(sentence + call + " answered " + got + ", due is " + want);
        }
    }

    static void key(ZoneLookup x, int... labels) {
        x.erase();
        for (int label : labels) {
            x.label(label);
        }
    }

    static void put(ZoneLookup x, int sort, int value, int... labels) {
        key(x, labels);
        x.add(sort, value);
    }

    static int numberOf(int... labels) {
        int number = 0;
        for (int label : labels) {
            number = number * 9 + label + 1;
        }
        return number;
    }

    static void looked(String what, ZoneLookup x, int sort, int answer, int place, int rounds) {
        due(what + ": look(" + sort + ")", x.look(sort), answer);
        due(what + ": place(" + sort + ")", x.place(sort), place);
        due(what + ": rounds(" + sort + ")", x.rounds(sort), rounds);
    }

    static void end() {
        if (sentences > 0) {
            System.out.println(sentences + " sentences of the document");
        }
        System.out.println(wrong == 0 ? "all answers are as due" : wrong + " answers are not as due");
        if (wrong != 0) {
            System.exit(1);
        }
    }
}
