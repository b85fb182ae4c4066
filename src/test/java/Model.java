import java.util.ArrayList;
import java.util.Collections;
import java.util.HashMap;
import java.util.List;
import java.util.Map;

/**
 * The document said again in another way, for ModelTest: names are texts of one digit for each
 * label, and a name's number is found in a table of all names.
 */
final class Model {
    private record Entry(String name, int sort, int value) {
    }

    private record Result(int answer, String place, int rounds) {
    }

    private static final Map<Integer, String> NAME_OF = new HashMap<>();
    private static final Map<String, Integer> NUMBER_OF = new HashMap<>();

    static {
        List<String> level = List.of("");
        for (int length = 0; length <= 4; length++) {
            List<String> next = new ArrayList<>();
            for (String name : level) {
                int number = 0;
                for (char c : name.toCharArray()) {
                    number = number * 9 + (c - '0') + 1;
                }
                NAME_OF.put(number, name);
                NUMBER_OF.put(name, number);
                for (int label = 0; label < 8; label++) {
                    next.add(name + label);
                }
            }
            level = next;
        }
    }

    private final List<Entry> entries = new ArrayList<>();
    private String key = "";

    int label(int label) {
        if (key.length() == 4) {
            return -1;
        }
        key += label & 7;
        return key.length();
    }

    int back() {
        if (key.isEmpty()) {
            return -1;
        }
        int last = key.charAt(key.length() - 1) - '0';
        key = key.substring(0, key.length() - 1);
        return last;
    }

    void erase() {
        key = "";
    }

    int number() {
        return NUMBER_OF.get(key);
    }

    int add(int sort, int value) {
        Entry entry = new Entry(key, sort, value);
        boolean sortIsWrong = sort < 1 || sort > 4;
        boolean aliasIsWrong = sort == 3 && !NAME_OF.containsKey(value);
        boolean sortIsFull = values(key, sort).size() == (sort < 3 ? 3 : 1);
        if (sortIsWrong || aliasIsWrong || sortIsFull || entries.contains(entry) || entries.size() == 24) {
            return -1;
        }
        entries.add(entry);
        return entries.size();
    }

    int remove(int sort, int value) {
        return entries.remove(new Entry(key, sort, value)) ? entries.size() : -1;
    }

    int exists() {
        return exists(key) ? 1 : 0;
    }

    int look(int sort) {
        return sort < 1 || sort > 4 ? -1 : lookUp(sort).answer();
    }

    int place(int sort) {
        return sort < 1 || sort > 4 ? -1 : NUMBER_OF.get(lookUp(sort).place());
    }

    int rounds(int sort) {
        return sort < 1 || sort > 4 ? -1 : lookUp(sort).rounds();
    }

    int value(int sort, int index) {
        if (sort < 1 || sort > 4) {
            return 0;
        }
        Result result = lookUp(sort);
        List<Integer> values = switch (result.answer()) {
            case 1 -> values(result.place(), sort);
            case 4 -> values(result.place(), 4);
            default -> List.of();
        };
        return index >= 0 && index < values.size() ? values.get(index) : 0;
    }

    private boolean exists(String name) {
        return name.isEmpty() || entries.stream().anyMatch(e -> e.name().startsWith(name));
    }

    private List<Integer> values(String name, int sort) {
        List<Integer> values = new ArrayList<>();
        for (Entry e : entries) {
            if (e.name().equals(name) && e.sort() == sort) {
                values.add(e.value());
            }
        }
        Collections.sort(values);
        return values;
    }

    private Result lookUp(int sort) {
        String q = key;
        for (int round = 1; true; round++) {
            for (int length = 1; length <= q.length() && sort != 4; length++) {
                String upper = q.substring(0, length);
                if (!values(upper, 4).isEmpty()) {
                    return new Result(4, upper, round);
                }
            }
            String r = q;
            if (!exists(q)) {
                int length = q.length() - 1;
                while (!exists(q.substring(0, length))) {
                    length--;
                }
                r = q.substring(0, length) + "7";
                if (!exists(r)) {
                    return new Result(3, q, round);
                }
            }
            if (sort == 3 || values(r, 3).isEmpty()) {
                return new Result(values(r, sort).isEmpty() ? 2 : 1, r, round);
            }
            if (round == 5) {
                return new Result(5, q, round);
            }
            q = NAME_OF.get(values(r, 3).get(0));
        }
    }
}
