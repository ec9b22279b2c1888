import java.io.IOException;
import java.lang.reflect.Constructor;
import java.lang.reflect.Field;
import java.lang.reflect.Method;
import java.lang.reflect.Modifier;
import java.nio.charset.StandardCharsets;
import java.nio.file.Files;
import java.nio.file.Path;
import java.util.Arrays;
import java.util.Set;
import java.util.TreeSet;

/** The public face, and the rules of LANGUAGE.md that can be seen from outside. */
public final class FaceTest {
    private static final Checks CHECKS = new Checks();
    private static final String METHODS = "feed(int,int,int,int,int):int text(int):int fault(int):int "
        + "named(int,int):int soul(int,int):int bus(int,int):int queue(int):int lets(int):int "
        + "law(int,int,int):long move(int,int):boolean give(int,int):int off(int):int go(int):int "
        + "ahead(int,int,int):int next(int):int meet(int,int):int goes(int):int empty():int order(int):int "
        + "trips(int):int match(int):int coins(int):int rests(int,int):int rest(int,int,int):int "
        + "dry(int,int):long see(int,int,boolean):int strike(int):int known(int):boolean everies(int):int "
        + "ask(int,int):int chance(int,int,int,int):int tried(int,int,int):int undo():int keep():int "
        + "back():int count(int):int";

    public static void main(String[] args) throws IOException {
        face();
        inside();
        source();
        CHECKS.end("FaceTest");
    }

    private static void face() {
        Class<?> face = HeavenStop.class;
        CHECKS.due("public and final", face.getModifiers(), Modifier.PUBLIC | Modifier.FINAL);
        Set<String> want = new TreeSet<>(Arrays.asList(METHODS.split(" ")));
        Set<String> got = new TreeSet<>();
        Set<String> names = new TreeSet<>();
        for (Method method : face.getDeclaredMethods()) {
            if (!Modifier.isPrivate(method.getModifiers())) {
                got.add(told(method));
                names.add(method.getName());
            }
        }
        CHECKS.due("methods " + got, got.equals(want), true);
        for (Method method : face.getDeclaredMethods()) {
            boolean isHidden = Modifier.isPrivate(method.getModifiers());
            CHECKS.due(method + " bears a public name", isHidden && names.contains(method.getName()), false);
        }
        for (Field field : face.getDeclaredFields()) {
            boolean isNone = field.getName().equals("NONE");
            CHECKS.due(field + " is seen", !Modifier.isPrivate(field.getModifiers()), isNone);
        }
        for (Constructor<?> constructor : face.getDeclaredConstructors()) {
            CHECKS.due("constructor", constructor.getParameterCount(), 0);
        }
    }

    private static String told(Method method) {
        StringBuilder all = new StringBuilder(method.getName()).append('(');
        for (Class<?> type : method.getParameterTypes()) {
            all.append(all.charAt(all.length() - 1) == '(' ? "" : ",").append(type.getName());
        }
        return all.append("):").append(method.getReturnType().getName()).toString();
    }

    private static void inside() {
        Class<?>[] classes = HeavenStop.class.getDeclaredClasses();
        CHECKS.due("at most twelve classes", classes.length + 1 <= 12, true);
        Set<String> names = new TreeSet<>();
        for (String method : METHODS.split(" ")) {
            names.add(method.substring(0, method.indexOf('(')));
        }
        for (Class<?> one : classes) {
            CHECKS.due(one + " is static", Modifier.isStatic(one.getModifiers()), true);
            long fields = Arrays.stream(one.getDeclaredFields())
                .filter(f -> !Modifier.isStatic(f.getModifiers())).count();
            CHECKS.due(one + " has at most twenty fields", fields <= 20, true);
            for (Method method : one.getDeclaredMethods()) {
                CHECKS.due(method + " takes at most seven", method.getParameterCount() <= 7, true);
                boolean isHidden = Modifier.isPrivate(method.getModifiers());
                CHECKS.due(method + " bears a public name", isHidden && names.contains(method.getName()), false);
            }
        }
    }

    private static void source() throws IOException {
        String all = Files.readString(Path.of("src/main/java/HeavenStop.java"), StandardCharsets.ISO_8859_1);
        CHECKS.due("signs 1 to 127", all.chars().allMatch(c -> c > 0 && c < 128), true);
        for (String no : new String[] {"->", "::", " try ", "catch", "finally", "synchronized", "assert ", "static {",
            "Exact(", "System.out", "System.nanoTime", "Random", "Thread", "null"}) {
            CHECKS.due("'" + no + "' stands in the source", all.contains(no), false);
        }
        CHECKS.due("one import", all.split("\nimport ", -1).length + (all.startsWith("import ") ? 1 : 0), 2);
    }
}
