import java.lang.reflect.Constructor;
import java.lang.reflect.Field;
import java.lang.reflect.Method;
import java.lang.reflect.Modifier;
import java.util.Arrays;
import java.util.TreeSet;

/** The public face, and LANGUAGE.md's rules 1 and 5 as far as reflection shows them. */
public final class FaceTest {
    private static final String[] METHODS = {
        "void init()", "boolean setWall(int, int, boolean)", "boolean putItem(int, int)",
        "int spawn(int, int)", "boolean load(int, int)", "int startRobot(int)", "int tick()",
        "int runTicks(int)", "int kill(int)", "int robotX(int)", "int robotY(int)",
        "int robotState(int)", "int reg(int, int)", "int at(int, int)",
        "int pathLength(int, int, int, int)", "int now()", "void setClock(int)",
    };

    private static final Check CHECK = new Check();

    public static void main(String[] args) {
        constants();
        constructor();
        methods();
        privateMethodNames();
        fields();
        CHECK.end("FaceTest");
    }

    private static void constants() {
        CHECK.same("NONE", RobotWorld.NONE, -1);
        CHECK.same("BAD", RobotWorld.BAD, -2);
        CHECK.same("FULL", RobotWorld.FULL, -3);
        CHECK.same("TAKEN", RobotWorld.TAKEN, -4);
    }

    private static void constructor() {
        int modifiers = RobotWorld.class.getModifiers();
        CHECK.yes("public class", Modifier.isPublic(modifiers));
        CHECK.yes("final class", Modifier.isFinal(modifiers));
        Constructor<?>[] all = RobotWorld.class.getDeclaredConstructors();
        CHECK.same("constructors", all.length, 1);
        CHECK.yes("public constructor", Modifier.isPublic(all[0].getModifiers()));
        Class<?>[] five = {int.class, int.class, int.class, int.class, int.class};
        CHECK.yes("parameters", Arrays.equals(all[0].getParameterTypes(), five));
    }

    private static void methods() {
        TreeSet<String> got = new TreeSet<>();
        for (Method method : RobotWorld.class.getDeclaredMethods()) {
            if (!Modifier.isPrivate(method.getModifiers())) {
                CHECK.yes(method + " is public", Modifier.isPublic(method.getModifiers()));
                CHECK.no(method + " is static", Modifier.isStatic(method.getModifiers()));
                got.add(shown(method));
            }
        }
        CHECK.yes("the methods " + got, got.equals(new TreeSet<>(Arrays.asList(METHODS))));
    }

    private static String shown(Method method) {
        String types = Arrays.toString(method.getParameterTypes());
        return method.getReturnType() + " " + method.getName()
                + "(" + types.substring(1, types.length() - 1) + ")";
    }

    private static void privateMethodNames() {
        TreeSet<String> names = new TreeSet<>();
        for (Method method : RobotWorld.class.getMethods()) {
            names.add(method.getName());
        }
        noneNamed(RobotWorld.class, names);
        for (Class<?> inside : RobotWorld.class.getDeclaredClasses()) {
            CHECK.yes(inside + " is static", Modifier.isStatic(inside.getModifiers()));
            noneNamed(inside, names);
        }
    }

    private static void noneNamed(Class<?> owner, TreeSet<String> names) {
        for (Method method : owner.getDeclaredMethods()) {
            if (!Modifier.isPublic(method.getModifiers())) {
                CHECK.no(method + " bears a public name", names.contains(method.getName()));
            }
        }
    }

    private static void fields() {
        TreeSet<String> open = new TreeSet<>();
        for (Field field : RobotWorld.class.getDeclaredFields()) {
            if (Modifier.isStatic(field.getModifiers())) {
                CHECK.yes(field + " is final", Modifier.isFinal(field.getModifiers()));
            }
            if (!Modifier.isPrivate(field.getModifiers())) {
                open.add(field.getName());
            }
        }
        CHECK.yes("open fields " + open,
                open.equals(new TreeSet<>(Arrays.asList("NONE", "BAD", "FULL", "TAKEN"))));
    }
}
