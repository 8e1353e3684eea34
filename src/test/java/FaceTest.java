import java.lang.reflect.Constructor;
import java.lang.reflect.Field;
import java.lang.reflect.Method;
import java.lang.reflect.Modifier;
import java.util.Arrays;
import java.util.Set;
import java.util.TreeSet;

/** The public face is the document's, and nothing else of the class can be seen from outside. */
public final class FaceTest {
    private static final String[] METHODS = {
        "put 2", "run 4", "clear 0", "sort 1", "sortPart 3", "merge 4", "rotate 3", "turn 2", "split 4",
        "thin 1", "sorted 3", "find 3", "rank 2", "key 1", "tag 1", "count 1", "check 0",
    };

    private static final Due due = new Due();

    public static void main(String[] args) {
        due.is("modifiers", RowPress.class.getModifiers(), Modifier.PUBLIC | Modifier.FINAL);
        methods();
        fields();
        constructors();
        for (Class<?> inside : RowPress.class.getDeclaredClasses()) {
            due.holds(inside + " is static", Modifier.isStatic(inside.getModifiers()));
            due.holds(inside + " is not public", !Modifier.isPublic(inside.getModifiers()));
        }
        due.end();
    }

    private static void methods() {
        Set<String> seen = new TreeSet<>();
        Set<String> hidden = new TreeSet<>();
        for (Method method : RowPress.class.getDeclaredMethods()) {
            int modifiers = method.getModifiers();
            if (Modifier.isPrivate(modifiers)) {
                hidden.add(method.getName());
                continue;
            }
            seen.add(method.getName() + " " + method.getParameterCount());
            due.is(method + ": modifiers", modifiers, Modifier.PUBLIC);
            due.holds(method + " answers an int", method.getReturnType() == int.class);
            due.holds(method + " throws nothing", method.getExceptionTypes().length == 0);
            for (Class<?> type : method.getParameterTypes()) {
                due.holds(method + " takes ints", type == int.class);
            }
        }
        due.holds("the methods are " + seen, seen.equals(new TreeSet<>(Arrays.asList(METHODS))));
        for (String method : METHODS) {
            String name = method.substring(0, method.indexOf(' '));
            due.holds("no private method " + name, !hidden.contains(name));
        }
    }

    private static void fields() {
        for (Field field : RowPress.class.getDeclaredFields()) {
            int modifiers = field.getModifiers();
            if (field.getName().equals("NONE")) {
                due.is("NONE: modifiers", modifiers, Modifier.PUBLIC | Modifier.STATIC | Modifier.FINAL);
                due.holds("NONE is an int", field.getType() == int.class);
            } else {
                due.holds(field + " is private", Modifier.isPrivate(modifiers));
                due.holds(field + " is no state of the class",
                    !Modifier.isStatic(modifiers) || Modifier.isFinal(modifiers));
            }
        }
    }

    private static void constructors() {
        Constructor<?>[] all = RowPress.class.getDeclaredConstructors();
        due.is("how many constructors", all.length, 1);
        due.is("the constructor's parameters", all[0].getParameterCount(), 0);
        due.is("the constructor's modifiers", all[0].getModifiers(), Modifier.PUBLIC);
    }
}
