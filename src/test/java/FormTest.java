import java.io.IOException;
import java.lang.reflect.Constructor;
import java.lang.reflect.Field;
import java.lang.reflect.Method;
import java.lang.reflect.Modifier;
import java.nio.file.Files;
import java.nio.file.Path;
import java.util.ArrayList;
import java.util.Arrays;
import java.util.List;
import java.util.Set;
import java.util.TreeSet;

/** The face of the class: the document's constants, constructor and methods, and no others that can be seen. */
public final class FormTest {
    private static final Path FILE = Path.of("src/main/java/SpellLayers.java");
    private static final String FACE = "type(long,int)int clear()int school()int spell(int,int)int thing(int,int)int "
        + "layer(int,int)int pupil(int)int lay(int,int,int)int lift(int,int)int swap(int,int)int copy(int,int,int)int "
        + "undo()int now(int)int cheapest(int,int,int,int)int takes(int,int)int learn(int,int)int saw(int,int)int "
        + "forget()int could()int under(int)int lifted()int broom(int,int,int,int,int,int)int odds(int,int,int)long "
        + "rate(int,int)int keep(int)int back(int)int count(int)int trace()long";
    private static final Check check = new Check("FormTest");

    public static void main(String[] args) throws IOException {
        face();
        lines(Files.readString(FILE));
        check.end();
    }

    private static void face() {
        Class<?> type = SpellLayers.class;
        check.holds("public final", Modifier.isPublic(type.getModifiers()) && Modifier.isFinal(type.getModifiers()));
        check.holds("no package", type.getPackageName().isEmpty());
        Set<String> got = new TreeSet<>();
        for (Method method : type.getDeclaredMethods()) {
            if (!Modifier.isPrivate(method.getModifiers())) {
                got.add(told(method));
            }
        }
        check.holds("the face's methods, no others: " + got, got.equals(new TreeSet<>(Arrays.asList(FACE.split(" ")))));
        for (Constructor<?> constructor : type.getDeclaredConstructors()) {
            check.holds("one public constructor", Modifier.isPublic(constructor.getModifiers())
                && constructor.getParameterCount() == 0);
        }
        Set<String> open = new TreeSet<>();
        for (Field field : type.getDeclaredFields()) {
            int m = field.getModifiers();
            check.holds("static fields are final: " + field, !Modifier.isStatic(m) || Modifier.isFinal(m));
            if (!Modifier.isPrivate(m)) {
                open.add(field.getName());
                check.holds("a public constant of int: " + field, Modifier.isPublic(m) && Modifier.isStatic(m)
                    && field.getType() == int.class);
            }
        }
        check.holds("the face's constants, no others: " + open,
            open.equals(Set.of("BAD", "STATE", "FULL", "NONE", "NO")));
    }

    private static String told(Method method) {
        List<String> types = new ArrayList<>();
        for (Class<?> type : method.getParameterTypes()) {
            types.add(type.getSimpleName());
        }
        return method.getName() + "(" + String.join(",", types) + ")" + method.getReturnType().getSimpleName();
    }

    private static void lines(String source) {
        String[] lines = source.split("\n");
        for (int i = 0; i < lines.length; i++) {
            check.holds("a line of 120 at most: " + (i + 1), lines[i].length() <= 120);
            check.holds("no blanks behind, no tabs: " + (i + 1), lines[i].matches("|[^\t]*[^\t ]"));
        }
    }
}
