import java.lang.reflect.Constructor;
import java.lang.reflect.Field;
import java.lang.reflect.Method;
import java.lang.reflect.Modifier;
import java.util.ArrayList;
import java.util.Collections;
import java.util.List;

/** The public face: its constants, its constructor, its methods, and nothing else that is not private. */
public final class FaceTest {
    private static final String[] METHODS = {
        "back(1)", "clear(0)", "count(1)", "doubt(3)", "drops(1)", "entry(2)", "keep(1)", "least(1)", "look(1)",
        "makes(4)", "ranked(3)", "sign(3)", "slacks(1)", "sure(1)", "tells(0)", "totals(1)", "type(1)", "undo(0)",
        "wears(3)", "word(2)"
    };

    public static void main(String[] args) {
        Checks checks = new Checks();
        checks.due("BAD", WornSums.BAD, -1);
        checks.due("STATE", WornSums.STATE, -2);
        checks.due("FULL", WornSums.FULL, -3);
        checks.due("NONE", WornSums.NONE, -9);
        checks.holds("the class is public and final",
                Modifier.isPublic(WornSums.class.getModifiers()) && Modifier.isFinal(WornSums.class.getModifiers()));
        checkMethods(checks);
        checkFields(checks);
        checkConstructors(checks);
        for (Class<?> inside : WornSums.class.getDeclaredClasses()) {
            checks.holds(inside.getName() + " is static", Modifier.isStatic(inside.getModifiers()));
            checks.holds(inside.getName() + " is not public", !Modifier.isPublic(inside.getModifiers()));
        }
        checks.end("FaceTest");
    }

    private static void checkMethods(Checks checks) {
        List<String> found = new ArrayList<>();
        List<String> privates = new ArrayList<>();
        for (Method method : WornSums.class.getDeclaredMethods()) {
            if (Modifier.isPrivate(method.getModifiers())) {
                privates.add(method.getName());
                continue;
            }
            found.add(method.getName() + "(" + method.getParameterCount() + ")");
            checks.holds(method + " is public", Modifier.isPublic(method.getModifiers()));
            checks.holds(method + " answers int", method.getReturnType() == int.class);
            for (Class<?> parameter : method.getParameterTypes()) {
                checks.holds(method + " takes int", parameter == int.class);
            }
        }
        Collections.sort(found);
        checks.holds("the methods are " + List.of(METHODS) + ", found " + found, found.equals(List.of(METHODS)));
        for (String name : METHODS) {
            String plain = name.substring(0, name.indexOf('('));
            checks.holds("no private method is named " + plain, !privates.contains(plain));
        }
    }

    private static void checkFields(Checks checks) {
        int open = 0;
        for (Field field : WornSums.class.getDeclaredFields()) {
            int modifiers = field.getModifiers();
            if (!Modifier.isPrivate(modifiers)) {
                open++;
                checks.holds(field + " is a public constant", Modifier.isPublic(modifiers)
                        && Modifier.isStatic(modifiers) && Modifier.isFinal(modifiers) && field.getType() == int.class);
            }
            checks.holds(field + " is final if static", !Modifier.isStatic(modifiers) || Modifier.isFinal(modifiers));
        }
        checks.due("constants", open, 4);
    }

    private static void checkConstructors(Checks checks) {
        Constructor<?>[] constructors = WornSums.class.getDeclaredConstructors();
        checks.due("constructors", constructors.length, 1);
        for (Constructor<?> constructor : constructors) {
            checks.holds("the constructor is public", Modifier.isPublic(constructor.getModifiers()));
            checks.due("its parameters", constructor.getParameterCount(), 0);
        }
    }
}
