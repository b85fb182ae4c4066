import java.lang.reflect.Constructor;
import java.lang.reflect.Field;
import java.lang.reflect.Method;
import java.lang.reflect.Modifier;
import java.util.Set;
import java.util.TreeSet;

/** The public face: the members the document names, and no other that isn't private. */
public final class FaceTest {
    public static void main(String[] args) {
        Set<String> want = new TreeSet<>(Set.of(
                "int FOUND", "int NO_DATA", "int NO_NAME", "int HANDED", "int LOOP",
                "new()", "int label(int)", "int back()", "void erase()", "int number()",
                "int add(int,int)", "int remove(int,int)", "int exists()", "int look(int)",
                "int place(int)", "int rounds(int)", "int value(int,int)"));
        Set<String> got = face();
        if (!got.equals(want)) {
            System.out.println("the face is " + got + ", due is " + want);
        }
        Due.due("the same face", got.equals(want) ? 1 : 0, 1);
        int modifiers = ZoneLookup.class.getModifiers();
        Due.due("public and final", modifiers, Modifier.PUBLIC | Modifier.FINAL);
        Due.due("nested classes", ZoneLookup.class.getDeclaredClasses().length, 0);
        Due.end();
    }

    private static Set<String> face() {
        Set<String> face = new TreeSet<>();
        for (Field field : ZoneLookup.class.getDeclaredFields()) {
            if (!Modifier.isPrivate(field.getModifiers())) {
                int constant = Modifier.PUBLIC | Modifier.STATIC | Modifier.FINAL;
                Due.due("modifiers of " + field.getName(), field.getModifiers(), constant);
                face.add(field.getType() + " " + field.getName());
            }
        }
        for (Constructor<?> constructor : ZoneLookup.class.getDeclaredConstructors()) {
            Due.due("modifiers of the constructor", constructor.getModifiers(), Modifier.PUBLIC);
            face.add("new(" + types(constructor.getParameterTypes()) + ")");
        }
        for (Method method : ZoneLookup.class.getDeclaredMethods()) {
            if (!Modifier.isPrivate(method.getModifiers())) {
                Due.due("modifiers of " + method.getName(), method.getModifiers(), Modifier.PUBLIC);
                face.add(method.getReturnType() + " " + method.getName() + "(" + types(method.getParameterTypes()) + ")");
            }
        }
        return face;
    }

    private static String types(Class<?>[] parameters) {
        StringBuilder text = new StringBuilder();
        for (Class<?> parameter : parameters) {
            text.append(text.length() == 0 ? "" : ",").append(parameter.getName());
        }
        return text.toString();
    }
}
