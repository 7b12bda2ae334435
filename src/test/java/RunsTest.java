import java.lang.reflect.InvocationTargetException;
import java.lang.reflect.Method;
import java.util.ArrayList;
import java.util.List;
import java.util.Random;

/**
 * Runs of some 500 calls of every kind on one hall, with good and with wrong arguments, settled and
 * not: each answer, and each exception, is compared with that of the model PlainHall.
 */
public final class RunsTest {
    // an order is told in at most 72 calls, and nothing is promised behind the 512th
    private static final int CALLS = 512 - 72;
    private static final int RUNS = 240;
    private static final int TOLD_BEFORE = 12;

    private static final int[] STRANGE = {
        -1, 14, 15, 16, 31, 32, 33, Integer.MIN_VALUE, Integer.MAX_VALUE, 1 << 30, -32, 16384,
    };

    private static final String[] ASKED = {
        "cycle", "compare", "compare", "set", "set", "level", "count", "antichain", "most", "first",
        "chains", "sequences", "take", "take", "take", "at", "at", "exchange", "exchange", "number",
        "number", "bound", "bound", "lattice", "sign", "sign", "check",
    };
    private static final String[] CHANGING = {
        "begin", "arc", "arc", "arc", "drop", "drop", "settle", "settle", "turn", "keep",
    };

    private final Random random;
    private final OrderHall hall = new OrderHall();
    private final PlainHall plain = new PlainHall();
    private final List<String> told = new ArrayList<>();
    private final int mostElements;
    private int n = 1;
    private int[] place = {0};

    private RunsTest(int run) {
        random = new Random(run);
        mostElements = run % 8 == 0 ? 14 : 3 + run % 7;
    }

    private boolean chance(int percent) {
        return random.nextInt(100) < percent;
    }

    // ---- one call on both

    private static Method method(Class<?> of, String name) {
        for (Method m : of.getDeclaredMethods()) {
            if (m.getName().equals(name)) {
                m.setAccessible(true);
                return m;
            }
        }
        throw new RuntimeException("there is no " + name);
    }

    private static String answer(Object object, String name, Object[] arguments) {
        try {
            return String.valueOf(method(object.getClass(), name).invoke(object, arguments));
        } catch (InvocationTargetException e) {
            return "throws." + e.getCause().getClass().getSimpleName();
        } catch (IllegalAccessException e) {
            throw new RuntimeException(e);
        }
    }

    /** Whether both answered the same; the model's answer stands at the end of what is told. */
    private boolean call(String name, Object... arguments) {
        String got = answer(hall, name, arguments);
        String due = answer(plain, name, arguments);
        StringBuilder text = new StringBuilder(name).append("(");
        for (int i = 0; i < arguments.length; i++) {
            text.append(i == 0 ? "" : ", ").append(arguments[i]);
        }
        told.add(text.append(") ").append(due).toString());
        if (got.equals(due)) {
            return true;
        }
        int from = Math.max(0, told.size() - TOLD_BEFORE);
        for (String line : told.subList(from, told.size() - 1)) {
            System.out.println("    " + line);
        }
        System.out.println("    " + text + " is due, but the hall answered " + got);
        return false;
    }

    private String latest() {
        String line = told.get(told.size() - 1);
        return line.substring(line.lastIndexOf(' ') + 1);
    }

    // ---- arguments

    private int strange() {
        return chance(30) ? n : STRANGE[random.nextInt(STRANGE.length)];
    }

    private int upTo(int last) {
        return chance(4) ? strange() : random.nextInt(last + 1);
    }

    private long sequenceNumber() {
        String many = answer(plain, "sequences", new Object[0]);
        long total = many.startsWith("throws") ? 5 : Long.parseLong(many);
        long[] edges = {0, total - 1, total, -1, Long.MIN_VALUE, Long.MAX_VALUE};
        return chance(40) ? edges[random.nextInt(6)] : random.nextLong(total);
    }

    private Object[] argumentsOf(String name) {
        switch (name) {
            case "compare":
            case "sign":
            case "drop":
                return new Object[] {upTo(n - 1), upTo(n - 1)};
            case "set":
                return new Object[] {upTo(n - 1), upTo(4)};
            case "level":
                return new Object[] {upTo(n - 1), upTo(1)};
            case "most":
            case "first":
                return new Object[] {upTo(1), chance(70) ? upTo(5) : upTo(14)};
            case "bound":
                return new Object[] {upTo(1), upTo(n - 1), upTo(n - 1)};
            case "count":
                return new Object[] {upTo(6)};
            case "antichain":
                return new Object[] {upTo(1)};
            case "chains":
                return new Object[] {chance(70) ? upTo(5) : upTo(14)};
            case "cycle":
            case "at":
            case "exchange":
                return new Object[] {upTo(n)};
            case "take":
                return new Object[] {sequenceNumber()};
            case "keep":
                return new Object[] {chance(15) ? upTo(1 << n) : someSet()};
            case "begin":
                return new Object[] {chance(75) ? strange() : 1 + random.nextInt(mostElements)};
            default:
                return new Object[0];
        }
    }

    /** Few elements stay away, so that orders do not shrink at once. */
    private int someSet() {
        return (1 << n) - 1 & ~(1 << random.nextInt(n)) & ~(chance(30) ? 1 << random.nextInt(n) : 0);
    }

    // ---- a run

    /** From a lesser place to a greater one, but for a few that may close a cycle. */
    private boolean arcAmong(int a, int b, int astray) {
        boolean strays = chance(astray);
        if (a == b && !strays) {
            return true;
        }
        return place[a] > place[b] && !strays ? call("arc", b, a) : call("arc", a, b);
    }

    private boolean tellArc() {
        if (chance(10)) {
            return call("arc", argumentsOf("drop"));
        }
        return arcAmong(random.nextInt(n), random.nextInt(n), 2);
    }

    private boolean tellOrder() {
        n = 1 + (chance(70) ? mostElements - 1 - random.nextInt(3) : random.nextInt(mostElements));
        place = new int[n];
        for (int i = 0; i < n; i++) {
            int j = random.nextInt(i + 1);
            place[i] = place[j];
            place[j] = i;
        }
        boolean good = call("begin", n);
        int arcs = random.nextInt(2 * n + 1);
        for (int i = 0; i < arcs && good; i++) {
            good = arcAmong(random.nextInt(n), random.nextInt(n), chance(5) ? 10 : 0);
        }
        if (chance(35)) {
            good = good && tellEnds();
        }
        if (chance(12)) {
            good = good && tellRound();
        }
        return good && call("settle");
    }

    /** One element below all and one above all, as lattices have them. */
    private boolean tellEnds() {
        boolean good = true;
        for (int x = 0; x < n && good; x++) {
            if (place[x] != 0) {
                good = call("arc", at(0), x);
            }
            if (place[x] != n - 1) {
                good = good && call("arc", x, at(n - 1));
            }
        }
        return good;
    }

    /** A way round through some elements, or through all. */
    private boolean tellRound() {
        int last = random.nextInt(n);
        boolean good = true;
        for (int i = 0; i < last && good; i++) {
            good = call("arc", at(i), at(i + 1));
        }
        return good && call("arc", at(last), at(0));
    }

    private int at(int i) {
        for (int x = 0; x < n; x++) {
            if (place[x] == i) {
                return x;
            }
        }
        throw new RuntimeException("no element has the place " + i);
    }

    private boolean change() {
        String name = CHANGING[random.nextInt(CHANGING.length)];
        boolean good = name.equals("arc") ? tellArc() : changeBy(name);
        return good && (chance(20) || call("settle"));
    }

    private boolean changeBy(String name) {
        Object[] arguments = argumentsOf(name);
        boolean good = call(name, arguments);
        String due = latest();
        if (name.equals("begin") && !due.startsWith("throws")) {
            placeInTurn((Integer) arguments[0]);
        }
        if (name.equals("keep") && !due.startsWith("throws")) {
            placeInTurn(Integer.parseInt(due));
        }
        if (name.equals("turn") && !due.startsWith("throws")) {
            for (int i = 0; i < n; i++) {
                place[i] = n - 1 - place[i];
            }
        }
        return good;
    }

    private void placeInTurn(int elements) {
        n = elements;
        place = new int[n];
        for (int i = 0; i < n; i++) {
            place[i] = i;
        }
    }

    private boolean ready() {
        return !answer(plain, "count", new Object[] {2}).startsWith("throws");
    }

    private boolean run() {
        boolean good = true;
        while (good && told.size() < CALLS) {
            if (chance(ready() && n > 2 ? 2 : 15)) {
                good = tellOrder();
            } else if (chance(12)) {
                good = change();
            } else if (plain.cycle(0) != OrderHall.NONE && chance(50)) {
                good = call("cycle", upTo(n));
            } else {
                String name = ASKED[random.nextInt(ASKED.length)];
                good = call(name, argumentsOf(name));
            }
        }
        return good;
    }

    public static void main(String[] args) {
        int wrong = 0;
        for (int run = 0; run < RUNS; run++) {
            if (!new RunsTest(run).run()) {
                wrong++;
                System.out.println("run " + run + " went wrong");
            }
        }
        System.out.println(RUNS + " runs compared, " + wrong + " went wrong");
        if (wrong != 0) {
            System.exit(1);
        }
    }
}
