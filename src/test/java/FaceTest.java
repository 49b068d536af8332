import java.lang.reflect.Constructor;
import java.lang.reflect.Field;
import java.lang.reflect.Method;
import java.lang.reflect.Modifier;
import java.nio.file.Files;
import java.nio.file.Path;
import java.util.ArrayList;
import java.util.List;
import java.util.Set;
import java.util.TreeSet;

/** The face of the class, numbers far outside at every call, and those rules of LANGUAGE.md that a look can tell. */
public final class FaceTest {
    private static final Set<String> FACE = new TreeSet<>(List.of("write(1)", "wipe(0)", "fault(0)", "lay(0)",
        "family(2)", "wall(2)", "tree(1)", "pass(1)", "share(3)", "sick(1)", "undo(0)", "behind(3)", "gone(1)",
        "best(3)", "enough(2)", "nextTo(2)", "all(1)", "see(3)", "forget(0)", "whoSick(0)", "kinds(1)", "idle(4)",
        "year(3)", "keep(0)", "back(0)", "count(1)"));
    private static final int[] FAR = {Integer.MIN_VALUE, Integer.MIN_VALUE + 1, -65536, -101, -5, -4, -3, -2, -1,
        10000, 65536, 1 << 30, Integer.MAX_VALUE - 1, Integer.MAX_VALUE};

    public static void main(String[] args) throws Exception {
        face();
        membersOfAllClasses();
        farNumbers();
        source();
        Check.end();
    }

    private static void yes(String what, boolean is) {
        Check.due(what, is ? 1 : 0, 1);
    }

    private static void face() throws Exception {
        Set<String> found = new TreeSet<>();
        for (Method method : LeaningWalls.class.getDeclaredMethods()) {
            if (Modifier.isPublic(method.getModifiers())) {
                found.add(method.getName() + "(" + method.getParameterCount() + ")");
                yes(method + " answers an int", method.getReturnType() == int.class);
                for (Class<?> type : method.getParameterTypes()) {
                    yes(method + " takes ints", type == int.class);
                }
            } else {
                yes(method + " is private", Modifier.isPrivate(method.getModifiers()));
            }
        }
        yes("the face is as told: " + found, found.equals(FACE));
        yes("the class is public and final", LeaningWalls.class.getModifiers() == (Modifier.PUBLIC | Modifier.FINAL));
        Constructor<?>[] constructors = LeaningWalls.class.getDeclaredConstructors();
        yes("one public constructor", constructors.length == 1 && Modifier.isPublic(constructors[0].getModifiers()));
        Check.due("BAD", LeaningWalls.BAD, -1);
        Check.due("NO", LeaningWalls.NO, -2);
        Check.due("FULL", LeaningWalls.FULL, -3);
        Check.due("NONE", LeaningWalls.NONE, -4);
        Set<String> constants = new TreeSet<>();
        for (Field field : LeaningWalls.class.getDeclaredFields()) {
            if (Modifier.isPublic(field.getModifiers())) {
                constants.add(field.getName());
            } else {
                yes(field + " is private", Modifier.isPrivate(field.getModifiers()));
            }
        }
        yes("the constants are as told", constants.equals(Set.of("BAD", "NO", "FULL", "NONE")));
    }

    private static void membersOfAllClasses() {
        List<Class<?>> classes = new ArrayList<>(List.of(LeaningWalls.class.getDeclaredClasses()));
        yes("some twelve classes at most", classes.size() <= 11);
        Set<String> names = new TreeSet<>();
        for (String call : FACE) {
            names.add(call.substring(0, call.indexOf('(')));
        }
        for (Class<?> inside : classes) {
            yes(inside + " is static", Modifier.isStatic(inside.getModifiers()));
            yes(inside + " is not public", !Modifier.isPublic(inside.getModifiers()));
            for (Method method : inside.getDeclaredMethods()) {
                yes(method + " bears no name of the face", !names.contains(method.getName()));
            }
        }
        classes.add(LeaningWalls.class);
        for (Class<?> each : classes) {
            int fields = 0;
            for (Field field : each.getDeclaredFields()) {
                boolean isStatic = Modifier.isStatic(field.getModifiers());
                yes(field + " is final or no static", Modifier.isFinal(field.getModifiers()) || !isStatic);
                fields += isStatic ? 0 : 1;
            }
            yes(each + " has some twenty fields at most", fields <= 20);
            for (Method method : each.getDeclaredMethods()) {
                yes(method + " takes seven parameters at most", method.getParameterCount() <= 7);
            }
        }
    }

    /** A number far outside is BAD at every place of every call, whatever stands at the other places. */
    private static void farNumbers() throws Exception {
        LeaningWalls x = Check.laid("f0,4,10;f3,2,10;w0,1;w1,0;t0,20;t1,20;");
        for (Method method : LeaningWalls.class.getDeclaredMethods()) {
            if (!Modifier.isPublic(method.getModifiers())) {
                continue;
            }
            int places = method.getParameterCount();
            for (int place = 0; place < places; place++) {
                for (int number : FAR) {
                    for (int other = 0; other < 2; other++) {
                        Object[] numbers = new Object[places];
                        for (int i = 0; i < places; i++) {
                            numbers[i] = i == place ? number : other;
                        }
                        Check.due(method.getName() + List.of(numbers), (int) method.invoke(x, numbers), Check.BAD);
                    }
                }
            }
        }
        Check.due("nothing to undo", x.count(7), 0);
        Check.due("nothing seen", x.count(6), 0);
    }

    private static void source() throws Exception {
        List<String> lines = Files.readAllLines(Path.of("src/main/java/LeaningWalls.java"));
        int begun = 0;
        for (int i = 0; i < lines.size(); i++) {
            String line = lines.get(i);
            String where = "line " + (i + 1) + ": " + line;
            for (String sign : List.of("->", "::", "import ", "finally", "synchronized", "assert ", "Exact(",
                "catch", "throw ", "System.out", "package ", "protected ", "var ", "Object")) {
                yes(where, !line.contains(sign));
            }
            yes(where, line.chars().allMatch(c -> c >= 32 && c < 127) && line.length() <= 120);
            // a method or a class inside begins at four or eight signs' depth and ends at the same
            if (line.matches(" {4}(    )?[a-z].*\\) \\{")) {
                begun = i;
            }
            if (line.matches(" {4}(    )?}")) {
                yes("sixty lines at most to " + where, i - begun <= 60 || line.length() == 5);
            }
        }
    }
}
