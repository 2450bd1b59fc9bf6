import java.io.IOException;
import java.lang.reflect.Array;
import java.lang.reflect.Constructor;
import java.lang.reflect.Field;
import java.lang.reflect.Method;
import java.lang.reflect.Modifier;
import java.nio.file.Files;
import java.nio.file.Path;
import java.util.ArrayList;
import java.util.Arrays;
import java.util.Collections;
import java.util.IdentityHashMap;
import java.util.List;
import java.util.Set;
import java.util.TreeSet;

/** The class's face (the document's constants, constructor and methods, no others), what room it takes, its lines. */
public final class FormTest {
    private static final Path FILE = Path.of("src/main/java/SpellLayers.java");
    private static final String FACE = "type(long,int)int clear()int school()int spell(int,int)int thing(int,int)int "
        + "layer(int,int)int pupil(int)int lay(int,int,int)int lift(int,int)int swap(int,int)int copy(int,int,int)int "
        + "undo()int now(int)int cheapest(int,int,int,int)int takes(int,int)int learn(int,int)int saw(int,int)int "
        + "forget()int could()int under(int)int lifted()int broom(int,int,int,int,int,int)int odds(int,int,int)long "
        + "rate(int,int)int keep(int)int back(int)int count(int)int trace()long";
    private static final Check check = new Check("FormTest");

    public static void main(String[] args) throws IOException, IllegalAccessException {
        face();
        room();
        lines(Files.readString(FILE));
        check.end();
    }

    private static void face() {
        Class<?> type = SpellLayers.class;
        check.holds("public final", Modifier.isPublic(type.getModifiers()) && Modifier.isFinal(type.getModifiers()));
        check.holds("no package", type.getPackageName().isEmpty());
        Set<String> got = new TreeSet<>();
        for (Method method : type.getDeclaredMethods()) {
            if (!Modifier.isPrivate(method.getModifiers())) {
                got.add(told(method));
            }
        }
        check.holds("the face's methods, no others: " + got, got.equals(new TreeSet<>(Arrays.asList(FACE.split(" ")))));
        for (Constructor<?> constructor : type.getDeclaredConstructors()) {
            check.holds("one public constructor", Modifier.isPublic(constructor.getModifiers())
                && constructor.getParameterCount() == 0);
        }
        Set<String> open = new TreeSet<>();
        for (Field field : type.getDeclaredFields()) {
            int m = field.getModifiers();
            check.holds("static fields are final: " + field, !Modifier.isStatic(m) || Modifier.isFinal(m));
            if (!Modifier.isPrivate(m)) {
                open.add(field.getName());
                check.holds("a public constant of int: " + field, Modifier.isPublic(m) && Modifier.isStatic(m)
                    && field.getType() == int.class);
            }
        }
        check.holds("the face's constants, no others: " + open,
            open.equals(Set.of("BAD", "STATE", "FULL", "NONE", "NO")));
    }

    private static String told(Method method) {
        List<String> types = new ArrayList<>();
        for (Class<?> type : method.getParameterTypes()) {
            types.add(type.getSimpleName());
        }
        return method.getName() + "(" + String.join(",", types) + ")" + method.getReturnType().getSimpleName();
    }

    /** What an object takes of the room that all calls share: it is made with it, and no call makes more. */
    private static void room() throws IllegalAccessException {
        SpellLayers x = new SpellLayers();
        Room fresh = new Room(x);
        check.holds("at most 40 objects and arrays: " + fresh.objects, fresh.objects <= 40);
        check.holds("at most 14,000 fields and elements: " + fresh.cells, fresh.cells <= 14000);
        String text = Edges.GREAT;
        for (int i = 0; i < text.length(); i++) {
            x.type(text.charAt(i), 1);
        }
        x.school();
        for (int i = 0; i < 6; i++) {
            x.cheapest(0, 480, 1, i % 2);
            x.saw(i % 3, 480);
            x.lifted();
            x.broom(0, 0, 1, 4, 9, 1);
            x.keep(i % 2);
            x.rate(i, 0);
            x.lift(0, 0);
        }
        Room used = new Room(x);
        check.due("objects and arrays behind calls", used.objects, fresh.objects);
        check.due("fields and elements behind calls", used.cells, fresh.cells);
    }

    /** Counts the objects and arrays that an object holds, itself too, and their fields and elements. */
    private static final class Room {
        private final Set<Object> seen = Collections.newSetFromMap(new IdentityHashMap<>());
        private int objects;
        private int cells;

        Room(Object first) throws IllegalAccessException {
            add(first);
        }

        private void add(Object one) throws IllegalAccessException {
            if (one == null || !seen.add(one)) {
                return;
            }
            objects++;
            if (one.getClass().isArray()) {
                cells += Array.getLength(one);
                return;
            }
            for (Field field : one.getClass().getDeclaredFields()) {
                if (!Modifier.isStatic(field.getModifiers())) {
                    cells++;
                    field.setAccessible(true);
                    if (!field.getType().isPrimitive()) {
                        add(field.get(one));
                    }
                }
            }
        }
    }

    private static void lines(String source) {
        String[] lines = source.split("\n");
        for (int i = 0; i < lines.length; i++) {
            check.holds("a line of 120 at most: " + (i + 1), lines[i].length() <= 120);
            check.holds("no blanks behind, no tabs: " + (i + 1), lines[i].matches("|[^\t]*[^\t ]"));
        }
    }
}
