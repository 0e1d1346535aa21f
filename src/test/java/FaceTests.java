import java.lang.reflect.Constructor;
import java.lang.reflect.Field;
import java.lang.reflect.Method;
import java.lang.reflect.Modifier;
import java.util.Arrays;
import java.util.Set;
import java.util.TreeSet;

/** The public face of the class, and those rules of LANGUAGE.md that can be seen from outside. */
public final class FaceTests {
    private static int wrong = 0;

    private static void due(String what, Object got, Object want) {
        if (!got.equals(want)) {
            wrong++;
            System.out.println(what + ": is " + got + ", due is " + want);
        }
    }

    private static Set<String> set(String... members) {
        return new TreeSet<>(Arrays.asList(members));
    }

    private static void theClass() {
        Class<?> face = TestTreeRunner.class;
        due("public and final alone", Modifier.toString(face.getModifiers()), "public final");
        due("no super class", face.getSuperclass(), Object.class);
        due("no interfaces", face.getInterfaces().length, 0);
        due("no nested classes", face.getDeclaredClasses().length, 0);
        due("no package", face.getPackageName(), "");
    }

    private static void theMethods() {
        Set<String> seen = new TreeSet<>();
        Set<String> seenNames = new TreeSet<>();
        Set<String> hiddenNames = new TreeSet<>();
        for (Method method : TestTreeRunner.class.getDeclaredMethods()) {
            if (Modifier.isPrivate(method.getModifiers())) {
                hiddenNames.add(method.getName());
            } else {
                seen.add(method.toString().replace("TestTreeRunner.", ""));
                seenNames.add(method.getName());
            }
            due("at most seven parameters: " + method, method.getParameterCount() <= 7, true);
            due("no array answered: " + method, method.getReturnType().isArray(), false);
        }
        due("methods seen", seen, set(
                "public int container(int)", "public int test(int)", "public int hook(int,int,int)",
                "public int body(int,int,int)", "public int tags(int,int)", "public int disable(int,boolean)",
                "public int run(int)", "public int result(int)", "public int times(int,int)",
                "public int count(int)", "public int steps()", "public int attempts(int)"));
        hiddenNames.retainAll(seenNames);
        due("private methods with a public name", hiddenNames, set());
    }

    private static void theConstructors() {
        Constructor<?>[] all = TestTreeRunner.class.getDeclaredConstructors();
        due("constructors", all.length, 1);
        due("constructor", all[0].toString(), "public TestTreeRunner()");
    }

    private static void theFields() {
        Set<String> seen = new TreeSet<>();
        int held = 0;
        for (Field field : TestTreeRunner.class.getDeclaredFields()) {
            int modifiers = field.getModifiers();
            Class<?> type = field.getType();
            if (!Modifier.isPrivate(modifiers)) {
                seen.add(Modifier.toString(modifiers) + " " + type + " " + field.getName());
            }
            if (Modifier.isStatic(modifiers)) {
                due("static and final: " + field, Modifier.isFinal(modifiers), true);
                due("static int or long: " + field, type == int.class || type == long.class, true);
            } else {
                held++;
                Class<?> single = type.isArray() ? type.getComponentType() : type;
                due("whole numbers: " + field, single.isPrimitive()
                        && single != float.class && single != double.class, true);
            }
        }
        Set<String> want = new TreeSet<>();
        for (String name : set("BAD_NODE", "FULL", "BAD_OUTCOME", "ABSENT", "PASSES", "FAILS", "ABORTS",
                "NOT_RUN", "PASSED", "FAILED", "ABORTED")) {
            want.add("public static final int " + name);
        }
        due("fields seen", seen, want);
        due("at most forty fields", held <= 40, true);
    }

    public static void main(String[] args) {
        theClass();
        theMethods();
        theConstructors();
        theFields();
        System.out.println(wrong == 0 ? "the face is as due" : wrong + " things are not as due");
        if (wrong != 0) {
            System.exit(1);
        }
    }
}
