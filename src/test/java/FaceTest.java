import java.lang.reflect.Constructor;
import java.lang.reflect.Field;
import java.lang.reflect.Method;
import java.lang.reflect.Modifier;
import java.util.Set;
import java.util.TreeSet;

/** The public face is the document's and nothing else, and the members keep to LANGUAGE.md. */
public final class FaceTest {
    private static final Set<String> FACE = Set.of(
        "public static final int BAD",
        "public static final int FULL",
        "public static final int NONE",
        "public CowTreeStore()",
        "public int put(int,int)",
        "public int erase(int)",
        "public boolean has(int,int)",
        "public int get(int,int)",
        "public int next(int,int)",
        "public int size(int)",
        "public int commit()",
        "public int abort()",
        "public int open(int)",
        "public int close(int)",
        "public int crash(int)",
        "public int number()",
        "public int seen(int)");
    private static final Set<Class<?>> PLAIN = Set.of(
        int.class, long.class, short.class, byte.class, char.class, boolean.class);

    private static int wrong = 0;

    private static void check(boolean holds, String what) {
        if (!holds) {
            wrong++;
            System.out.println("not so: " + what);
        }
    }

    private static Set<String> visibleMembers() {
        Set<String> members = new TreeSet<>();
        for (Field f : CowTreeStore.class.getDeclaredFields()) {
            if (!Modifier.isPrivate(f.getModifiers())) {
                members.add(f.toString().replace("CowTreeStore.", ""));
            }
        }
        for (Constructor<?> c : CowTreeStore.class.getDeclaredConstructors()) {
            if (!Modifier.isPrivate(c.getModifiers())) {
                members.add(c.toString());
            }
        }
        for (Method m : CowTreeStore.class.getDeclaredMethods()) {
            if (!Modifier.isPrivate(m.getModifiers())) {
                members.add(m.toString().replace("CowTreeStore.", ""));
            }
        }
        return members;
    }

    private static boolean isPlain(Class<?> type) {
        return PLAIN.contains(type) || type.isArray() && PLAIN.contains(type.getComponentType());
    }

    private static void checkFields() {
        int beside = 0;
        for (Field f : CowTreeStore.class.getDeclaredFields()) {
            check(isPlain(f.getType()), "rule 2, a plain type: " + f);
            if (Modifier.isStatic(f.getModifiers())) {
                check(Modifier.isFinal(f.getModifiers()), "rule 5, a constant: " + f);
                check(f.getType() == int.class || f.getType() == long.class, "rule 5, int or long: " + f);
            } else {
                beside++;
            }
        }
        check(beside <= 40, "rule 10, at most forty fields beside the constants, not " + beside);
    }

    private static void checkMethods() {
        Set<String> publicNames = new TreeSet<>();
        for (Method m : CowTreeStore.class.getDeclaredMethods()) {
            if (Modifier.isPublic(m.getModifiers())) {
                publicNames.add(m.getName());
            }
        }
        for (Method m : CowTreeStore.class.getDeclaredMethods()) {
            boolean isPrivate = Modifier.isPrivate(m.getModifiers());
            check(!isPrivate || !publicNames.contains(m.getName()), "rule 1, a name of its own: " + m);
            check(!m.isSynthetic(), "rule 6, no lambda: " + m);
            check(m.getParameterCount() <= 7, "rule 10, at most seven parameters: " + m);
            check(m.getReturnType() == void.class || PLAIN.contains(m.getReturnType()), "rule 4, no array answered: " + m);
            check(m.getExceptionTypes().length == 0, "rule 6, throws nothing: " + m);
        }
    }

    public static void main(String[] args) {
        Set<String> members = visibleMembers();
        check(members.equals(FACE), "the public face is the document's; it is " + members);
        check(CowTreeStore.class.getModifiers() == (Modifier.PUBLIC | Modifier.FINAL), "rule 1, public and final");
        check(CowTreeStore.class.getDeclaredClasses().length == 0, "rule 1, no nested class");
        check(CowTreeStore.class.getSuperclass() == Object.class, "rule 1, no other class above");
        check(CowTreeStore.class.getInterfaces().length == 0, "rule 1, no interface");
        checkFields();
        checkMethods();
        System.out.println(wrong == 0 ? "the face is as due" : wrong + " things are not as due");
        if (wrong != 0) {
            System.exit(1);
        }
    }
}
