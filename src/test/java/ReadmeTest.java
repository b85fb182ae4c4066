import java.io.File;
import java.io.IOException;
import java.lang.reflect.Field;
import java.lang.reflect.Method;
import java.lang.reflect.Modifier;
import java.util.Set;
import java.util.TreeSet;
import java.util.regex.Matcher;
import java.util.regex.Pattern;

/** README.md: what it shows and says of the class is so, and the files that it names are there. */
public final class ReadmeTest {
    private static final String MAKING = "ZoneLookup zone = new ZoneLookup();";
    private static final Pattern CALL =
            Pattern.compile("zone\\.(\\w+)\\(([^()]*)\\);(?: +// (-?\\d+|[A-Z_]+)(?:, .+)?)?");
    private static final Pattern ROW = Pattern.compile("\\| `(\\w+)\\(([^()]*)\\)` \\|.*");
    private static final Pattern ANSWER = Pattern.compile("`([A-Z_]+)` \\((\\d+)\\)");
    private static final Pattern TEST = Pattern.compile("`(\\w+Test)`");
    private static final Pattern PATH = Pattern.compile("`([\\w.]+/[\\w./]+|\\.\\.?/[\\w./]+)`");

    private static final Set<String> calls = new TreeSet<>();
    private static final Set<String> answers = new TreeSet<>();

    public static void main(String[] args) throws IOException, ReflectiveOperationException {
        Readme readme = new Readme();
        for (int i = 0; i < readme.examples().size(); i++) {
            example(i + 1, readme);
        }
        same("the calls of the examples", calls, methods());
        same("the answers of look in the examples", answers, constants());
        table(readme);
        listOfAnswers(readme);
        testsThatThereAre(readme);
        paths(readme);
        Due.end();
    }

    private static void example(int number, Readme readme) throws ReflectiveOperationException {
        ZoneLookup zone = null;
        for (String line : readme.examples().get(number - 1)) {
            String where = "README.md, example " + number + ": " + line;
            Matcher call = CALL.matcher(line);
            if (zone == null) {
                Due.due(where + " (makes the object)", line.equals(MAKING) ? 1 : 0, 1);
                zone = new ZoneLookup();
            } else if (call.matches()) {
                called(where, zone, call);
            } else {
                Due.due(where + " (is a call with its answer)", 0, 1);
            }
        }
        Due.due("README.md, example " + number + " makes an object", zone == null ? 0 : 1, 1);
    }

    private static void called(String where, ZoneLookup zone, Matcher call) throws ReflectiveOperationException {
        String[] texts = parts(call.group(2));
        Class<?>[] types = new Class<?>[texts.length];
        Object[] arguments = new Object[texts.length];
        for (int i = 0; i < texts.length; i++) {
            types[i] = int.class;
            arguments[i] = Integer.valueOf(texts[i]);
        }
        Method method = ZoneLookup.class.getMethod(call.group(1), types);
        Object got = method.invoke(zone, arguments);
        calls.add(method.getName() + "/" + texts.length);
        String said = call.group(3);
        boolean isVoid = method.getReturnType() == void.class;
        Due.due(where + " (tells an answer)", said != null ? 1 : 0, isVoid ? 0 : 1);
        if (said != null && !isVoid) {
            Due.due(where, (Integer) got, meant(said));
        }
    }

    private static int meant(String said) throws ReflectiveOperationException {
        if (Character.isUpperCase(said.charAt(0))) {
            int constant = ZoneLookup.class.getField(said).getInt(null);
            answers.add(said + "=" + constant);
            return constant;
        }
        return Integer.parseInt(said);
    }

    private static void table(Readme readme) {
        Set<String> rows = new TreeSet<>();
        for (String line : readme.prose()) {
            Matcher row = ROW.matcher(line);
            if (row.matches()) {
                rows.add(row.group(1) + "/" + parts(row.group(2)).length);
            }
        }
        same("the table's calls", rows, methods());
    }

    private static void listOfAnswers(Readme readme) throws ReflectiveOperationException {
        Set<String> listed = new TreeSet<>();
        Matcher answer = ANSWER.matcher(String.join("\n", readme.prose()));
        while (answer.find()) {
            listed.add(answer.group(1) + "=" + answer.group(2));
        }
        same("the list of answers", listed, constants());
    }

    private static void testsThatThereAre(Readme readme) {
        Set<String> named = new TreeSet<>();
        Matcher test = TEST.matcher(String.join("\n", readme.prose()));
        while (test.find()) {
            named.add(test.group(1) + ".java");
        }
        String[] files = new File("src/test/java").list((directory, name) -> name.endsWith("Test.java"));
        same("the tests", named, new TreeSet<>(Set.of(files)));
    }

    private static void paths(Readme readme) {
        int seen = 0;
        Matcher path = PATH.matcher(String.join("\n", readme.prose()));
        while (path.find()) {
            seen++;
            Due.due("README.md: " + path.group(1) + " is there", new File(path.group(1)).exists() ? 1 : 0, 1);
        }
        Due.due("README.md names paths", seen > 0 ? 1 : 0, 1);
    }

    private static Set<String> methods() {
        Set<String> methods = new TreeSet<>();
        for (Method method : ZoneLookup.class.getDeclaredMethods()) {
            if (Modifier.isPublic(method.getModifiers())) {
                methods.add(method.getName() + "/" + method.getParameterCount());
            }
        }
        return methods;
    }

    private static Set<String> constants() throws ReflectiveOperationException {
        Set<String> constants = new TreeSet<>();
        for (Field field : ZoneLookup.class.getFields()) {
            constants.add(field.getName() + "=" + field.getInt(null));
        }
        return constants;
    }

    private static String[] parts(String parameters) {
        return parameters.isEmpty() ? new String[0] : parameters.split(", ");
    }

    private static void same(String what, Set<String> said, Set<String> want) {
        if (!said.equals(want)) {
            System.out.println("README.md, " + what + ": " + said + ", due is " + want);
        }
        Due.due("README.md, " + what, said.equals(want) ? 1 : 0, 1);
    }
}
