import java.lang.reflect.Constructor;
import java.lang.reflect.Field;
import java.lang.reflect.Method;
import java.lang.reflect.Modifier;
import java.util.Set;
import java.util.TreeSet;

/** The class has the document's public face and no more, over the types that LANGUAGE.md leaves. */
public final class FaceTest {
    private static final Set<String> FACE = Set.of(
        "boolean put(int,int)", "int get(int)", "boolean write(int)", "int read(int)", "int damage(int,int,int)",
        "boolean lose(int)", "int scrub(int)", "int byteOf(int,int)", "boolean copy(int,int)", "boolean same(int,int)",
        "boolean swap(int,int)", "int touched(int)", "int spoiled(int)", "int lost()", "int sum(int)",
        "int find(int,int,int)");
    private static final Set<Class<?>> NUMBERS = Set.of(int.class, long.class, short.class, byte.class, char.class,
        boolean.class);

    private static int wrong = 0;

    public static void main(String[] args) {
        methods();
        fields();
        constructors();
        System.out.println(wrong == 0 ? "the face is as due" : wrong + " faults in the face");
        if (wrong != 0) {
            System.exit(1);
        }
    }

    private static void check(boolean holds, String fault) {
        if (!holds) {
            wrong++;
            System.out.println(fault);
        }
    }

    private static String signature(Method m) {
        StringBuilder text = new StringBuilder(m.getReturnType() + " " + m.getName() + "(");
        for (Class<?> type : m.getParameterTypes()) {
            text.append(text.charAt(text.length() - 1) == '(' ? "" : ",").append(type.getName());
        }
        return text.append(")").toString();
    }

    private static void methods() {
        Set<String> found = new TreeSet<>();
        Set<String> names = new TreeSet<>();
        for (Method m : SectorChain.class.getDeclaredMethods()) {
            if (Modifier.isPublic(m.getModifiers())) {
                found.add(signature(m));
                names.add(m.getName());
                check(!Modifier.isStatic(m.getModifiers()), m + " is static");
            }
        }
        check(found.equals(FACE), "public methods are " + found);
        for (Method m : SectorChain.class.getDeclaredMethods()) {
            if (!Modifier.isPublic(m.getModifiers())) {
                check(Modifier.isPrivate(m.getModifiers()), m + " can be seen outside");
                check(!names.contains(m.getName()), m + " bears a public method's name");
            }
            check(m.getParameterCount() <= 7, m + " has too many parameters");
        }
    }

    private static void fields() {
        Set<String> open = new TreeSet<>();
        for (Field f : SectorChain.class.getDeclaredFields()) {
            int how = f.getModifiers();
            if (Modifier.isPublic(how)) {
                open.add(Modifier.toString(how) + " " + f.getType() + " " + f.getName());
            } else {
                check(Modifier.isPrivate(how), f + " can be seen outside");
            }
            Class<?> type = f.getType();
            if (Modifier.isStatic(how)) {
                check(Modifier.isFinal(how) && (type == int.class || type == long.class), f + " is no constant");
            }
            check(NUMBERS.contains(type.isArray() ? type.getComponentType() : type), f + " is no number or array");
        }
        check(open.equals(Set.of("public static final int BAD", "public static final int FULL")), "constants: " + open);
    }

    private static void constructors() {
        Constructor<?>[] all = SectorChain.class.getDeclaredConstructors();
        check(all.length == 1 && Modifier.isPublic(all[0].getModifiers()) && all[0].getParameterCount() == 0,
            "the constructor is not the document's");
        check(Modifier.isFinal(SectorChain.class.getModifiers()), "the class is not final");
        check(Modifier.isPublic(SectorChain.class.getModifiers()), "the class is not public");
        check(SectorChain.class.getSuperclass() == Object.class, "the class extends another");
        check(SectorChain.class.getInterfaces().length == 0, "the class has an interface");
        check(SectorChain.class.getDeclaredClasses().length == 0, "the class has a nested class");
    }
}
