import java.io.IOException;
import java.lang.reflect.Constructor;
import java.lang.reflect.Field;
import java.lang.reflect.Method;
import java.lang.reflect.Modifier;
import java.nio.file.Files;
import java.nio.file.Path;
import java.util.ArrayList;
import java.util.Arrays;
import java.util.List;
import java.util.Set;
import java.util.TreeSet;
import java.util.regex.Matcher;
import java.util.regex.Pattern;

/** The face of the class, and what of ../shared/LANGUAGE.md can be told from the file's words. */
public final class FormTest {
    private static final Path FILE = Path.of("src/main/java/SpellLayers.java");
    private static final String FACE = "type(long,int)int clear()int school()int spell(int,int)int thing(int,int)int "
        + "layer(int,int)int pupil(int)int lay(int,int,int)int lift(int,int)int swap(int,int)int copy(int,int,int)int "
        + "undo()int now(int)int cheapest(int,int,int,int)int takes(int,int)int learn(int,int)int saw(int,int)int "
        + "forget()int could()int under(int)int lifted()int broom(int,int,int,int,int,int)int odds(int,int,int)long "
        + "rate(int,int)int keep(int)int back(int)int count(int)int trace()long";
    private static final String[] BANNED = {
        "throw", "try", "catch", "finally", "synchronized", "assert", "package", "native", "volatile", "transient",
        "\\w+Exact", "System\\.(?!arraycopy)", "Math\\.(?!min|max|abs|floor)", "Integer\\.(?!bitCount)", "->", "::",
        "\" *\\+", "\\+ *\"", "printStackTrace", "Thread", "Random", "hashCode", "equals\\(Object"
    };

    private static final Check check = new Check("FormTest");

    public static void main(String[] args) throws IOException {
        face();
        nested();
        String source = Files.readString(FILE);
        words(source);
        methodLengths(source);
        check.end();
    }

    private static void face() {
        Class<?> type = SpellLayers.class;
        check.holds("public final", Modifier.isPublic(type.getModifiers()) && Modifier.isFinal(type.getModifiers()));
        check.holds("no package", type.getPackageName().isEmpty());
        Set<String> got = new TreeSet<>();
        for (Method method : type.getDeclaredMethods()) {
            if (!Modifier.isPrivate(method.getModifiers())) {
                got.add(told(method));
            }
        }
        check.holds("the face's methods, no others: " + got, got.equals(new TreeSet<>(Arrays.asList(FACE.split(" ")))));
        for (Constructor<?> constructor : type.getDeclaredConstructors()) {
            check.holds("one public constructor", Modifier.isPublic(constructor.getModifiers())
                && constructor.getParameterCount() == 0);
        }
        Set<String> open = new TreeSet<>();
        for (Field field : type.getDeclaredFields()) {
            int m = field.getModifiers();
            check.holds("static fields are final: " + field, !Modifier.isStatic(m) || Modifier.isFinal(m));
            if (!Modifier.isPrivate(m)) {
                open.add(field.getName());
            }
        }
        check.holds("the face's constants, no others: " + open,
            open.equals(Set.of("BAD", "STATE", "FULL", "NONE", "NO")));
    }

    private static String told(Method method) {
        List<String> types = new ArrayList<>();
        for (Class<?> type : method.getParameterTypes()) {
            types.add(type.getSimpleName());
        }
        return method.getName() + "(" + String.join(",", types) + ")" + method.getReturnType().getSimpleName();
    }

    private static void nested() {
        Set<String> names = new TreeSet<>();
        for (String one : FACE.split(" ")) {
            names.add(one.replaceFirst("\\(.*", ""));
        }
        Class<?>[] inside = SpellLayers.class.getDeclaredClasses();
        check.holds("at most twelve classes", inside.length + 1 <= 12);
        for (Class<?> type : inside) {
            check.holds("static, not public: " + type, Modifier.isStatic(type.getModifiers())
                && !Modifier.isPublic(type.getModifiers()) && !Modifier.isProtected(type.getModifiers()));
            int fields = 0;
            for (Field field : type.getDeclaredFields()) {
                boolean fixed = Modifier.isStatic(field.getModifiers());
                check.holds("static fields are final: " + field, !fixed || Modifier.isFinal(field.getModifiers()));
                fields += fixed ? 0 : 1;
            }
            check.holds("at most twenty fields: " + type, fields <= 20);
            for (Method method : type.getDeclaredMethods()) {
                check.holds("no name of a public method: " + method, !names.contains(method.getName()));
                check.holds("at most seven parameters: " + method, method.getParameterCount() <= 7);
            }
        }
    }

    private static void words(String source) {
        String code = source.replaceAll("(?s)/\\*.*?\\*/", "").replaceAll("//[^\n]*", "");
        check.holds("signs 1 to 127 alone", source.chars().allMatch(c -> c >= 1 && c <= 127));
        for (String banned : BANNED) {
            String edge = Character.isLetter(banned.charAt(0)) ? "\\b" : "";
            check.holds("no " + banned, !Pattern.compile(edge + banned).matcher(code).find());
        }
        Matcher imports = Pattern.compile("import ([^;]+);").matcher(code);
        while (imports.find()) {
            check.holds("import " + imports.group(1), imports.group(1).equals("java.util.Arrays"));
        }
        // Elements of arrays are reached by the two guarded methods alone.
        String bare = code.replaceAll("new int\\[[^\\]]*\\]", "").replaceAll("int\\[\\]", "");
        check.due("arrays' elements outside at() and put()", bare.split("\\w\\[", -1).length - 1, 2);
        Matcher divisors = Pattern.compile("[/%]=? *([A-Za-z0-9_.]+)").matcher(code);
        while (divisors.find()) {
            String by = divisors.group(1);
            check.holds("divides by " + by, by.matches("[A-Z_]+|[1-9][0-9]*|d"));
        }
    }

    private static void methodLengths(String source) {
        int start = 0;
        String[] lines = source.split("\n");
        for (int i = 0; i < lines.length; i++) {
            if (lines[i].matches("( {4}| {8})[a-z].*\\) \\{")) {
                start = i;
            }
            if (lines[i].matches("( {4}| {8})\\}") && start > 0) {
                check.holds("a short method at line " + (start + 1), i - start <= 60);
                start = 0;
            }
            check.holds("a line of 120 at most: " + (i + 1), lines[i].length() <= 120);
        }
    }
}
