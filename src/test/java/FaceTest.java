import java.lang.reflect.Field;
import java.lang.reflect.Method;
import java.lang.reflect.Modifier;
import java.util.ArrayList;
import java.util.Arrays;
import java.util.Collections;
import java.util.List;

/** The public face is the document's, to the letter, and the class keeps rules 1, 5 and 11. */
public final class FaceTest {
    private static final String[] FACE = {
        "public static final int NONE",
        "public OrderHall()",
        "public void begin(int) throws IllegalArgumentException",
        "public int arc(int,int) throws IndexOutOfBoundsException",
        "public int drop(int,int) throws IndexOutOfBoundsException",
        "public int settle()",
        "public int cycle(int)",
        "public int compare(int,int) throws IllegalStateException,IndexOutOfBoundsException",
        "public int set(int,int) throws IllegalStateException,IndexOutOfBoundsException,IllegalArgumentException",
        "public int level(int,int) throws IllegalStateException,IndexOutOfBoundsException,IllegalArgumentException",
        "public int count(int) throws IllegalStateException,IllegalArgumentException",
        "public int antichain(int) throws IllegalStateException,IllegalArgumentException",
        "public int most(int,int) throws IllegalStateException,IllegalArgumentException",
        "public int first(int,int) throws IllegalStateException,IllegalArgumentException",
        "public int chains(int) throws IllegalStateException,IllegalArgumentException",
        "public long sequences() throws IllegalStateException",
        "public void take(long) throws IllegalStateException,IllegalArgumentException",
        "public int at(int)",
        "public int exchange(int)",
        "public long number()",
        "public int bound(int,int,int) throws IllegalStateException,IndexOutOfBoundsException,IllegalArgumentException",
        "public int lattice() throws IllegalStateException",
        "public int sign(int,int) throws IllegalStateException,IndexOutOfBoundsException",
        "public void turn() throws IllegalStateException",
        "public int keep(int) throws IllegalStateException,IllegalArgumentException",
        "public int check() throws IllegalStateException",
    };

    private static int wrong = 0;

    private static void want(boolean holds, String what) {
        if (!holds) {
            wrong++;
            System.out.println("does not hold: " + what);
        }
    }

    private static String plain(String text) {
        return text.replace("java.lang.", "").replace("OrderHall.", "");
    }

    private static List<String> found() {
        List<String> result = new ArrayList<>();
        for (Field f : OrderHall.class.getDeclaredFields()) {
            if (!Modifier.isPrivate(f.getModifiers())) {
                result.add(plain(f.toString()));
            }
        }
        for (var c : OrderHall.class.getDeclaredConstructors()) {
            result.add(plain(c.toString()));
        }
        for (Method m : OrderHall.class.getDeclaredMethods()) {
            if (!Modifier.isPrivate(m.getModifiers())) {
                result.add(plain(m.toString()));
            }
        }
        Collections.sort(result);
        return result;
    }

    private static void face() {
        List<String> due = new ArrayList<>(Arrays.asList(FACE));
        Collections.sort(due);
        List<String> found = found();
        for (String line : due) {
            want(found.contains(line), "the face has " + line);
        }
        for (String line : found) {
            want(due.contains(line), "the face has nothing more: " + line);
        }
        want(Modifier.isPublic(OrderHall.class.getModifiers()), "the class is public");
        want(Modifier.isFinal(OrderHall.class.getModifiers()), "the class is final");
    }

    private static boolean inFace(String name) {
        for (Method m : OrderHall.class.getMethods()) {
            if (m.getDeclaringClass() == OrderHall.class && m.getName().equals(name)) {
                return true;
            }
        }
        return false;
    }

    private static void rules(Class<?> c) {
        int fields = 0;
        for (Field f : c.getDeclaredFields()) {
            boolean fixed = Modifier.isStatic(f.getModifiers());
            want(!fixed || Modifier.isFinal(f.getModifiers()), "final: " + f);
            fields += fixed ? 0 : 1;
        }
        want(fields <= 20, "some twenty fields: " + c);
        for (Method m : c.getDeclaredMethods()) {
            want(m.getParameterCount() <= 7, "seven parameters: " + m);
            boolean own = Modifier.isPublic(m.getModifiers()) && c == OrderHall.class;
            want(own || !inFace(m.getName()), "a name of the face: " + m);
        }
    }

    public static void main(String[] args) {
        face();
        rules(OrderHall.class);
        Class<?>[] inside = OrderHall.class.getDeclaredClasses();
        want(inside.length <= 12, "some twelve classes");
        for (Class<?> c : inside) {
            want(Modifier.isStatic(c.getModifiers()), "static: " + c);
            rules(c);
        }
        System.out.println(wrong == 0 ? "the face is as due" : wrong + " things are not as due");
        if (wrong != 0) {
            System.exit(1);
        }
    }
}
