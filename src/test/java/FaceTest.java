import java.lang.reflect.Constructor;
import java.lang.reflect.Field;
import java.lang.reflect.Method;
import java.lang.reflect.Modifier;
import java.util.Set;
import java.util.TreeSet;

/** The public face is the document's, and nothing beside it can be seen from outside. */
public final class FaceTest {
    private static int wrong = 0;

    public static void main(String[] args) throws Exception {
        due("class", Modifier.toString(RunFinder.class.getModifiers()), "public final");
        due("superclass", RunFinder.class.getSuperclass().getName(), "java.lang.Object");
        due("nested classes", RunFinder.class.getDeclaredClasses().length, 0);
        due("interfaces", RunFinder.class.getInterfaces().length, 0);
        due("constants", constants(), new TreeSet<>(Set.of(
            "public static final int BAD_LETTER = -1",
            "public static final int FULL = -2",
            "public static final int BAD_PLACE = -3",
            "public static final int NONE = -4")));
        due("constructors", constructors(), new TreeSet<>(Set.of("public RunFinder()")));
        due("methods", methods(), new TreeSet<>(Set.of(
            "public int RunFinder.append(int)",
            "public int RunFinder.set(int,int)",
            "public int RunFinder.repeat(int)",
            "public int RunFinder.drop()",
            "public void RunFinder.clear()",
            "public int RunFinder.runs()",
            "public int RunFinder.begin(int)",
            "public int RunFinder.end(int)",
            "public int RunFinder.period(int)",
            "public int RunFinder.squares()",
            "public int RunFinder.wholePeriod()",
            "public int RunFinder.smallestEnd()",
            "public int RunFinder.factors()",
            "public int RunFinder.smallestTurn()")));
        System.out.println(wrong == 0 ? "the face is as due" : wrong + " parts of the face are not as due");
        if (wrong != 0) {
            System.exit(1);
        }
    }

    private static void due(String what, Object got, Object want) {
        if (!got.equals(want)) {
            wrong++;
            System.out.println(what + ": " + got + ", due is " + want);
        }
    }

    private static Set<String> constants() throws IllegalAccessException {
        Set<String> found = new TreeSet<>();
        for (Field f : RunFinder.class.getDeclaredFields()) {
            if (!Modifier.isPrivate(f.getModifiers())) {
                String value = Modifier.isStatic(f.getModifiers()) ? " = " + f.get(null) : "";
                found.add(Modifier.toString(f.getModifiers()) + " " + f.getType() + " " + f.getName() + value);
            }
        }
        return found;
    }

    private static Set<String> constructors() {
        Set<String> found = new TreeSet<>();
        for (Constructor<?> c : RunFinder.class.getDeclaredConstructors()) {
            if (!Modifier.isPrivate(c.getModifiers())) {
                found.add(c.toString());
            }
        }
        return found;
    }

    private static Set<String> methods() {
        Set<String> found = new TreeSet<>();
        for (Method m : RunFinder.class.getDeclaredMethods()) {
            if (!Modifier.isPrivate(m.getModifiers())) {
                found.add(m.toString());
            }
        }
        return found;
    }
}
