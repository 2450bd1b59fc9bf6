import java.lang.reflect.Method;
import java.lang.reflect.Modifier;
import java.util.HashMap;
import java.util.Map;

/** Calls written as text, "lay(0, 2, 1)", made on an object of their own. */
final class Script {
    private static final Map<String, Method> METHODS = new HashMap<>();

    static {
        for (Method method : SpellLayers.class.getDeclaredMethods()) {
            if (Modifier.isPublic(method.getModifiers())) {
                METHODS.put(method.getName(), counted(method));
            }
        }
    }

    private final Counted x;

    private Script(Counted x) {
        this.x = x;
    }

    private static Method counted(Method method) {
        try {
            return Counted.class.getDeclaredMethod(method.getName(), method.getParameterTypes());
        } catch (NoSuchMethodException e) {
            throw new IllegalStateException(e);
        }
    }

    /** An object that has read this text, if it isn't empty. */
    static Script of(String school) {
        return new Script(school.isEmpty() ? new Counted() : Check.school(school));
    }

    Script twin() {
        return new Script(x.twin());
    }

    int calls() {
        return x.calls();
    }

    String all() {
        return x.all();
    }

    void write(String text) {
        Check.write(x, text);
    }

    /** Makes a call; MIN and MAX are the ends of what the parameter's type holds, a long may be told as 0x..L. */
    long ask(String call) {
        Method method = METHODS.get(call.substring(0, call.indexOf('(')));
        String inside = call.substring(call.indexOf('(') + 1, call.lastIndexOf(')'));
        String[] told = inside.isEmpty() ? new String[0] : inside.split(", ");
        Class<?>[] types = method.getParameterTypes();
        Object[] numbers = new Object[told.length];
        for (int i = 0; i < told.length; i++) {
            numbers[i] = types[i] == long.class ? (Object) longOf(told[i]) : (Object) intOf(told[i]);
        }
        try {
            return ((Number) method.invoke(x, numbers)).longValue();
        } catch (ReflectiveOperationException e) {
            throw new IllegalStateException(call, e);
        }
    }

    private static int intOf(String told) {
        return told.equals("MIN") ? Integer.MIN_VALUE : told.equals("MAX") ? Integer.MAX_VALUE : Integer.parseInt(told);
    }

    private static long longOf(String told) {
        if (told.startsWith("0x") && told.endsWith("L")) {
            return Long.decode(told.substring(0, told.length() - 1));
        }
        return told.equals("MIN") ? Long.MIN_VALUE : told.equals("MAX") ? Long.MAX_VALUE : Long.parseLong(told);
    }
}
