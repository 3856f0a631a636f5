import java.lang.reflect.InvocationTargetException;
import java.lang.reflect.Method;
import java.lang.reflect.Modifier;
import java.util.ArrayList;
import java.util.List;

/** Calls that are told as texts, such as "strike(0, true)", made on an object. */
final class Called {

    private Called() {
    }

    /** What the call answers, or "throws" and the class that it throws. */
    static String on(TypebarMachine x, String call) throws ReflectiveOperationException {
        Method method = method(nameOf(call));
        List<Object> given = new ArrayList<>();
        for (String argument : argumentsOf(call)) {
            given.add(value(argument));
        }
        try {
            return String.valueOf(method.invoke(x, given.toArray()));
        } catch (InvocationTargetException e) {
            return "throws " + e.getCause().getClass().getSimpleName();
        }
    }

    static String nameOf(String call) {
        return call.substring(0, call.indexOf('('));
    }

    static List<String> argumentsOf(String call) {
        String inside = call.substring(call.indexOf('(') + 1, call.lastIndexOf(')'));
        return inside.isEmpty() ? List.of() : List.of(inside.split(", "));
    }

    /** The same call with a value in the place of an argument that is told by its name. */
    static String with(String call, String argument, int value) {
        List<String> arguments = new ArrayList<>(argumentsOf(call));
        arguments.replaceAll(a -> a.equals(argument) ? "" + value : a);
        return nameOf(call) + "(" + String.join(", ", arguments) + ")";
    }

    static Method method(String name) {
        for (Method m : TypebarMachine.class.getDeclaredMethods()) {
            if (m.getName().equals(name) && Modifier.isPublic(m.getModifiers())) {
                return m;
            }
        }
        throw new IllegalArgumentException("the class has no " + name);
    }

    private static Object value(String argument) {
        if (argument.equals("true") || argument.equals("false")) {
            return Boolean.valueOf(argument);
        }
        return argument.startsWith("'") ? (int) argument.charAt(1) : Integer.parseInt(argument);
    }
}
