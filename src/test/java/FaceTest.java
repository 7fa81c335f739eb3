import java.lang.reflect.Constructor;
import java.lang.reflect.Field;
import java.lang.reflect.Member;
import java.lang.reflect.Method;
import java.lang.reflect.Modifier;
import java.util.Arrays;
import java.util.Set;
import java.util.TreeSet;

/** The class has the document's face and shows nothing else. */
public final class FaceTest {
    private static final String[] FACE = {
        "int NONE", "LordsRoad()", "int feed(int, int, int, int, int)", "int edicts(int)", "int fault(int)",
        "boolean year(int)", "int station(int, int, int, int, int, boolean)", "boolean height(int, int, int, int)",
        "int between(int, int)", "int lord(int, int, int, int, int, int)", "boolean papers(int, int, int)",
        "boolean window(int, int, int, int)", "int wants(int, int, int)", "int ahead(int, int)",
        "boolean set(int, int)", "int judge(int)", "int night(int, int, int)", "int end(int, int)",
        "int given(int, int)", "int plan()", "int anew(int)", "int row(int)", "int known(int, int, int, int)",
        "int look(int, int) IndexOutOfBoundsException NoSuchElementException", "int count(int)"};

    public static void main(String[] args) {
        Set<String> seen = new TreeSet<>();
        for (Field f : LordsRoad.class.getDeclaredFields()) {
            if (isShown(f)) {
                seen.add(f.getType() + " " + f.getName());
            }
        }
        for (Constructor<?> c : LordsRoad.class.getDeclaredConstructors()) {
            if (isShown(c)) {
                seen.add("LordsRoad" + list(c.getParameterTypes()));
            }
        }
        for (Method m : LordsRoad.class.getDeclaredMethods()) {
            if (isShown(m)) {
                StringBuilder text = new StringBuilder(m.getReturnType() + " " + m.getName() + list(m.getParameterTypes()));
                for (Class<?> e : m.getExceptionTypes()) {
                    text.append(' ').append(e.getSimpleName());
                }
                seen.add(text.toString());
            }
        }
        Set<String> due = new TreeSet<>(Arrays.asList(FACE));
        boolean right = seen.equals(due) && Modifier.isFinal(LordsRoad.class.getModifiers());
        System.out.println(right ? "the face is as due" : "the face is " + seen + ", due is " + due);
        if (!right) {
            System.exit(1);
        }
    }

    private static boolean isShown(Member member) {
        return !Modifier.isPrivate(member.getModifiers()) && !member.isSynthetic();
    }

    private static String list(Class<?>[] types) {
        return Arrays.toString(types).replace('[', '(').replace(']', ')');
    }
}
