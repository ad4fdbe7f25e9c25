import java.lang.reflect.Constructor;
import java.lang.reflect.Field;
import java.lang.reflect.Method;
import java.lang.reflect.Modifier;
import java.util.Arrays;
import java.util.HashSet;
import java.util.Set;
import java.util.TreeSet;

/** The public face: the class, its constants and its methods, and nothing else. */
public final class FaceTest {
    private static final String[] MEMBERS = {
        "public static final int RealDesk.OVER",
        "public static final int RealDesk.ZERO",
        "public static final int RealDesk.BELOW",
        "public static final int RealDesk.SMALL",
        "public RealDesk()",
        "public int RealDesk.set(int,long,int) throws java.lang.IllegalArgumentException",
        "public int RealDesk.combine(int,int,int,int) throws java.lang.IllegalArgumentException",
        "public int RealDesk.change(int,int,int) throws java.lang.IllegalArgumentException",
        "public int RealDesk.power(int,int,int) throws java.lang.IllegalArgumentException",
        "public int RealDesk.order(int,int) throws java.lang.IllegalArgumentException",
        "public long RealDesk.digits(int) throws java.lang.IllegalArgumentException",
        "public int RealDesk.exponent(int) throws java.lang.IllegalArgumentException",
        "public double RealDesk.value(int) throws java.lang.IllegalArgumentException",
        "public long RealDesk.whole(int) throws java.lang.IllegalArgumentException,java.lang.IllegalStateException"
    };

    private FaceTest() {
    }

    public static void main(String[] args) {
        Due due = new Due("FaceTest");
        due.same("OVER", RealDesk.OVER, -1);
        due.same("ZERO", RealDesk.ZERO, -2);
        due.same("BELOW", RealDesk.BELOW, -3);
        due.same("SMALL", RealDesk.SMALL, -4);
        int kind = RealDesk.class.getModifiers();
        due.isTrue("the class is public and final", Modifier.isPublic(kind) && Modifier.isFinal(kind));
        Set<String> want = new TreeSet<>(Arrays.asList(MEMBERS));
        Set<String> got = new TreeSet<>();
        Set<String> publicMethods = new HashSet<>();
        for (Field field : RealDesk.class.getDeclaredFields()) {
            addUnlessPrivate(got, field.getModifiers(), field.toString());
        }
        for (Constructor<?> made : RealDesk.class.getDeclaredConstructors()) {
            addUnlessPrivate(got, made.getModifiers(), made.toString());
        }
        for (Method method : RealDesk.class.getDeclaredMethods()) {
            addUnlessPrivate(got, method.getModifiers(), method.toString());
            if (Modifier.isPublic(method.getModifiers())) {
                publicMethods.add(method.getName());
            }
        }
        due.isTrue("the members are the document's: " + got, got.equals(want));
        for (Method method : RealDesk.class.getDeclaredMethods()) {
            if (Modifier.isPrivate(method.getModifiers())) {
                due.isTrue("private " + method.getName() + " has a name of its own",
                    !publicMethods.contains(method.getName()));
            }
        }
        due.end();
    }

    private static void addUnlessPrivate(Set<String> members, int modifiers, String told) {
        if (!Modifier.isPrivate(modifiers)) {
            members.add(told);
        }
    }
}
