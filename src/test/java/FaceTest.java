import java.lang.reflect.Constructor;
import java.lang.reflect.Field;
import java.lang.reflect.Method;
import java.lang.reflect.Modifier;
import java.util.Set;
import java.util.TreeSet;

/** The class shows the constants, the constructor and the methods of the document, and nothing else. */
public final class FaceTest {
    private static int wrong = 0;

    public static void main(String[] args) {
        check("class", Set.of("public final class NameResolver"), Set.of(NameResolver.class.toGenericString()));
        check("superclass", Set.of(Object.class.toString()), Set.of(NameResolver.class.getSuperclass().toString()));
        check("interfaces", 0, NameResolver.class.getInterfaces().length);
        check("nested classes", 0, NameResolver.class.getDeclaredClasses().length);
        check("methods", dueMethods(), visibleMethods());
        check("constructors", Set.of("public NameResolver(int)"), visibleConstructors());
        check("constants", dueConstants(), visibleFields());
        check("BAD", -1, NameResolver.BAD);
        check("FULL", -2, NameResolver.FULL);
        check("NONE", -1, NameResolver.NONE);
        System.out.println(wrong == 0 ? "the face is as due" : wrong + " parts of the face are not as due");
        if (wrong != 0) {
            System.exit(1);
        }
    }

    private static void check(String what, Object due, Object got) {
        if (!due.equals(got)) {
            wrong++;
            System.out.println(what + " is " + got + ", due is " + due);
        }
    }

    private static Set<String> dueMethods() {
        return new TreeSet<>(Set.of(
                "public int NameResolver.certify(int,int,int,int)",
                "public boolean NameResolver.revoke(int)",
                "public int NameResolver.grant(int,int,int,boolean)",
                "public boolean NameResolver.withdraw(int)",
                "public int NameResolver.certificates()",
                "public int NameResolver.grants()",
                "public int NameResolver.members(int,int)",
                "public int NameResolver.cost(int,int,int)",
                "public int NameResolver.denotes(int,int,int)",
                "public int NameResolver.witness(int,int,int)",
                "public boolean NameResolver.matters(int)",
                "public int NameResolver.trusted(int)",
                "public int NameResolver.trustCost(int,int)",
                "public void NameResolver.clear()"));
    }

    private static Set<String> dueConstants() {
        return new TreeSet<>(Set.of(
                "public static final int NameResolver.BAD",
                "public static final int NameResolver.FULL",
                "public static final int NameResolver.NONE"));
    }

    private static Set<String> visibleMethods() {
        Set<String> all = new TreeSet<>();
        for (Method m : NameResolver.class.getDeclaredMethods()) {
            if (!Modifier.isPrivate(m.getModifiers())) {
                all.add(m.toString());
            }
        }
        return all;
    }

    private static Set<String> visibleConstructors() {
        Set<String> all = new TreeSet<>();
        for (Constructor<?> c : NameResolver.class.getDeclaredConstructors()) {
            if (!Modifier.isPrivate(c.getModifiers())) {
                all.add(c.toString());
            }
        }
        return all;
    }

    private static Set<String> visibleFields() {
        Set<String> all = new TreeSet<>();
        for (Field f : NameResolver.class.getDeclaredFields()) {
            if (!Modifier.isPrivate(f.getModifiers())) {
                all.add(f.toString());
            }
        }
        return all;
    }
}
