import java.lang.reflect.Constructor;
import java.lang.reflect.Field;
import java.lang.reflect.Method;
import java.lang.reflect.Modifier;
import java.util.Set;
import java.util.TreeSet;

/** The public face is the document's and no more (LANGUAGE.md, rules 1, 2 and 5). */
public final class FaceTest {
    public static void main(String[] args) throws Exception {
        constants();
        members();
        fields();
        Expect.end("FaceTest");
    }

    private static void constants() throws Exception {
        String[] names = {"BAD_PROCESS", "BAD_NUMBER", "FULL", "LATE", "LOCKED"};
        for (int i = 0; i < names.length; i++) {
            Expect.same(names[i], OptimisticSim.class.getField(names[i]).getInt(null), -1 - i);
        }
    }

    private static void members() {
        Set<String> due = new TreeSet<>(Set.of(
                "public static final int OptimisticSim.BAD_PROCESS",
                "public static final int OptimisticSim.BAD_NUMBER",
                "public static final int OptimisticSim.FULL",
                "public static final int OptimisticSim.LATE",
                "public static final int OptimisticSim.LOCKED",
                "public OptimisticSim()",
                "public int OptimisticSim.rule(int,int,int,int)",
                "public int OptimisticSim.inject(int,int,int)",
                "public int OptimisticSim.work(int,int)",
                "public int OptimisticSim.commit(int)",
                "public void OptimisticSim.clear()",
                "public int OptimisticSim.state(int,int)",
                "public int OptimisticSim.handled(int,int)",
                "public int OptimisticSim.lastTime()",
                "public int OptimisticSim.events()",
                "public int OptimisticSim.horizon()"));
        Set<String> got = new TreeSet<>();
        for (Field field : OptimisticSim.class.getDeclaredFields()) {
            addIfSeen(got, field.getModifiers(), field.toString());
        }
        for (Constructor<?> constructor : OptimisticSim.class.getDeclaredConstructors()) {
            addIfSeen(got, constructor.getModifiers(), constructor.toString());
        }
        for (Method method : OptimisticSim.class.getDeclaredMethods()) {
            addIfSeen(got, method.getModifiers(), method.toString());
        }
        Expect.same("members", got, due);
        int modifiers = OptimisticSim.class.getModifiers();
        Expect.same("the class's modifiers", Modifier.toString(modifiers), "public final");
        Expect.same("nested classes", OptimisticSim.class.getDeclaredClasses().length, 0);
    }

    private static void addIfSeen(Set<String> seen, int modifiers, String text) {
        if (!Modifier.isPrivate(modifiers)) {
            seen.add(text);
        }
    }

    private static void fields() {
        for (Field field : OptimisticSim.class.getDeclaredFields()) {
            Class<?> type = field.getType();
            boolean plain = type == int.class || type == int[].class;
            Expect.same(field + " is of int or an array of int", plain, true);
            if (Modifier.isStatic(field.getModifiers())) {
                Expect.same(field + " is a constant", type == int.class && Modifier.isFinal(field.getModifiers()), true);
            }
        }
    }
}
