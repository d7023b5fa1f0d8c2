import java.lang.reflect.Constructor;
import java.lang.reflect.Field;
import java.lang.reflect.Member;
import java.lang.reflect.Method;
import java.lang.reflect.Modifier;
import java.util.Set;
import java.util.TreeSet;

/** The class shows the document's public face and no more. */
public final class FaceTest {
    private static final Set<String> FACE = Set.of(
            "BAD_ARG", "FULL", "NONE", "ComparatorNet(int)",
            "add(int,int)", "drop(int)", "swap(int)", "turn()", "size()", "input(int,int)", "output(int)",
            "exchanges()", "sorts()", "sorted()", "ranks(int,int)", "works(int)", "below(int,int)", "idle()",
            "rounds()");

    private static int wrong = 0;

    public static void main(String[] args) {
        checkMembers();
        System.exit(wrong == 0 ? 0 : 1);
    }

    private static void fault(String what) {
        wrong++;
        System.out.println(what);
    }

    private static void checkMembers() {
        Class<?> face = ComparatorNet.class;
        if (!Modifier.isFinal(face.getModifiers()) || !Modifier.isPublic(face.getModifiers())) {
            fault("the class is not public and final");
        }
        Set<String> seen = new TreeSet<>();
        for (Field f : face.getDeclaredFields()) {
            note(seen, f, f.getName(), f.getType());
            if (Modifier.isStatic(f.getModifiers()) && !Modifier.isFinal(f.getModifiers())) {
                fault("the static field " + f.getName() + " is not a constant");
            }
        }
        for (Constructor<?> c : face.getDeclaredConstructors()) {
            note(seen, c, "ComparatorNet" + types(c.getParameterTypes()), int.class);
        }
        for (Method m : face.getDeclaredMethods()) {
            note(seen, m, m.getName() + types(m.getParameterTypes()), m.getReturnType());
            if (Modifier.isPrivate(m.getModifiers()) && hasPublic(face, m.getName())) {
                fault("the private method " + m.getName() + " bears the name of a public one");
            }
        }
        if (!seen.equals(FACE)) {
            fault("the face is " + seen + ", due is " + new TreeSet<>(FACE));
        }
    }

    private static boolean hasPublic(Class<?> face, String name) {
        for (Method m : face.getDeclaredMethods()) {
            if (Modifier.isPublic(m.getModifiers()) && m.getName().equals(name)) {
                return true;
            }
        }
        return false;
    }

    private static void note(Set<String> seen, Member member, String name, Class<?> type) {
        if (Modifier.isPrivate(member.getModifiers())) {
            return;
        }
        seen.add(name);
        if (!Modifier.isPublic(member.getModifiers())) {
            fault(name + " is neither public nor private");
        }
        if (type != int.class) {
            fault(name + " is not of type int");
        }
    }

    private static String types(Class<?>[] types) {
        StringBuilder text = new StringBuilder("(");
        for (Class<?> type : types) {
            text.append(text.length() > 1 ? "," : "").append(type.getName());
        }
        return text.append(")").toString();
    }
}
