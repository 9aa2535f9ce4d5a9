import java.lang.reflect.InvocationTargetException;
import java.lang.reflect.Method;
import java.util.ArrayList;
import java.util.Comparator;
import java.util.List;
import java.util.Random;

/** Random runs of calls: the class and the slow model must answer, or throw, the same. */
public final class ModelTest {
    private static final int RUNS = 1500;
    private static final int[] EDGES = {-2147483648, -2, -1, 0, 1, 2, 3, 4, 5, 6, 7, 10, 11, 15, 16, 30, 39, 40, 41, 99, 100, 101,
        102, 105, 111, 112, 500, 900, 998, 999, 1000, 9999, 10000, 65536, 2147483647};

    private final Random random;
    private final TillTheBell real = new TillTheBell();
    private final Model model = new Model();
    private final List<String> log = new ArrayList<>();
    private boolean broken = false;

    private ModelTest(long seed) {
        random = new Random(seed);
    }

    public static void main(String[] args) {
        int runs = args.length > 0 ? Integer.parseInt(args[0]) : RUNS;
        int from = args.length > 1 ? Integer.parseInt(args[1]) : 0;
        for (int i = from; i < from + runs; i++) {
            ModelTest t = new ModelTest(i);
            t.run();
            if (t.broken) {
                Check.yes("run " + i + ":\n" + String.join("\n", t.log), false);
                break;
            }
            Check.yes("run", true);
        }
        Check.end("ModelTest");
    }

    private static List<Method> methods() {
        List<Method> all = new ArrayList<>();
        for (Method m : TillTheBell.class.getDeclaredMethods()) {
            if (java.lang.reflect.Modifier.isPublic(m.getModifiers())) {
                all.add(m);
            }
        }
        all.sort(Comparator.comparing(Method::getName));
        return all;
    }

    private static final List<Method> METHODS = methods();

    private void run() {
        tell(goodText());
        int calls = 20 + random.nextInt(250);
        for (int i = 0; i < calls && !broken; i++) {
            int kind = random.nextInt(100);
            if (kind < 25) {
                deal();
            } else if (kind < 32) {
                row();
            } else if (kind < 33) {
                tell(random.nextInt(3) > 0 ? spoilt(goodText()) : goodText());
            } else if (kind < 34) {
                call("morning");
                call("pass", random.nextInt(1000));
                call("morning");
            } else {
                any();
            }
        }
    }

    private String goodText() {
        StringBuilder t = new StringBuilder();
        int people = 1 + random.nextInt(6);
        int things = random.nextInt(8) == 0 ? 0 : 1 + random.nextInt(10);
        int top = random.nextBoolean() ? 60 : 999;
        t.append("people ").append(people).append(";");
        for (int p = 0; p < people; p++) {
            if (random.nextInt(5) > 0) {
                t.append("coins ").append(p).append(' ').append(random.nextInt(random.nextBoolean() ? 150 : 10000)).append(";");
            }
        }
        for (int i = 0; i < things; i++) {
            t.append("thing").append(random.nextInt(4) == 0 ? "" : " ").append(random.nextInt(people));
            int told = random.nextInt(people + 1);
            for (int p = 0; p < told; p++) {
                t.append(random.nextInt(3) == 0 ? "\n" : " ").append(random.nextInt(top + 1));
            }
            t.append(" ;");
            if (random.nextInt(4) == 0) {
                t.append("worth ").append(random.nextInt(i + 1)).append(' ').append(random.nextInt(people)).append(' ').append(random.nextInt(top + 1)).append(";\n");
            }
            if (random.nextInt(12) == 0) {
                t.append("eaten ").append(random.nextInt(i + 1)).append(";");
            }
        }
        if (random.nextBoolean()) {
            t.append("share ").append(random.nextInt(101)).append(";");
        }
        if (random.nextInt(3) == 0) {
            t.append("bell ").append(1 + random.nextInt(999)).append(";");
        }
        return t.toString();
    }

    private String spoilt(String text) {
        StringBuilder t = new StringBuilder(text);
        String[] parts = {";", " ", "people", "thing", "eaten", "coins", "bell 1000;", "share 101;", "0", "9", "12345", "A", "\u0000", "\n", "x", "-",
            "worth", " 999 ", " 1000 ", "thing 0;", "people 2;", "\u00ff", "coins 0 10000", "00000", "0007"};
        for (int i = random.nextInt(3); i >= 0; i--) {
            int at = random.nextInt(t.length() + 1);
            if (random.nextInt(3) == 0) {
                t.delete(at, Math.min(t.length(), at + 1 + random.nextInt(4)));
            } else {
                t.insert(at, parts[random.nextInt(parts.length)]);
            }
        }
        return t.toString();
    }

    private void tell(String text) {
        int[] all = Check.ints(text);
        for (int i = 0; i < all.length; i += 5) {
            call("feed", all[i], all[i + 1], all[i + 2], all[i + 3], all[i + 4]);
        }
        log.add("// " + text.replace("\n", "\\n"));
        call("town", Math.min(text.length(), real.count(11)) - (random.nextInt(20) == 0 ? 1 : 0));
        call("fault", 0);
        call("fault", 1);
    }

    private void deal() {
        int things = Math.max(1, real.count(2));
        int people = Math.max(1, real.count(1));
        call("sell", random.nextInt(things), random.nextInt(people), random.nextInt(random.nextInt(4) == 0 ? 1000 : 70));
    }

    private void row() {
        int t = random.nextInt(4);
        int many = random.nextInt(7);
        call("tray", t, random.nextInt(4), many);
        for (int i = 0; i < many; i++) {
            long v = random.nextInt(5) == 0 ? random.nextLong() : random.nextInt(random.nextBoolean() ? 61 : 10000);
            call("write", t, i, v);
        }
    }

    private void any() {
        Method m = METHODS.get(random.nextInt(METHODS.size()));
        if (tooDear(m.getName())) {
            return;
        }
        if (List.of("eat", "restore", "morning").contains(m.getName()) && random.nextInt(4) > 0) {
            return;
        }
        Object[] args = new Object[m.getParameterCount()];
        for (int i = 0; i < args.length; i++) {
            args[i] = m.getParameterTypes()[i] == long.class ? (Object) random.nextLong() : (Object) number(m.getName(), i);
        }
        if (m.getName().equals("day") && random.nextBoolean()) {
            args[0] = random.nextInt();
            args[1] = 1 + random.nextInt(8);
        }
        if ((m.getName().equals("end") || m.getName().equals("keeper")) && Integer.bitCount(real.open()) > 5) {
            args[m.getName().equals("end") ? 0 : 1] = 1;
        }
        call(m, args);
    }

    private int number(String name, int i) {
        int kind = random.nextInt(10);
        if (kind == 0) {
            return EDGES[random.nextInt(EDGES.length)];
        }
        if (name.equals("end") && i == 1 && kind < 6) {
            return kind < 4 ? 100 + random.nextInt(13) : 10 + random.nextInt(6);
        }
        if (name.equals("news") && i == 2 || name.equals("pass")) {
            return random.nextInt(100);
        }
        return random.nextInt(kind < 7 ? 4 : 12);
    }

    /** The model tries every way, a hundred times in bestShare. */
    private boolean tooDear(String name) {
        int open = Integer.bitCount(real.open());
        return name.equals("bestShare") && open > 5 && open <= 10;
    }

    private void call(String name, Object... args) {
        for (Method m : METHODS) {
            if (m.getName().equals(name)) {
                call(m, args);
            }
        }
    }

    private void call(Method m, Object... args) {
        String a = answer(real, m, args);
        String b;
        try {
            b = answer(model, Model.class.getMethod(m.getName(), m.getParameterTypes()), args);
        } catch (NoSuchMethodException e) {
            b = "the model has no such method";
        }
        log.add(m.getName() + java.util.Arrays.toString(args) + " -> " + a);
        if (!a.equals(b)) {
            log.add("   the model: " + b);
            broken = true;
        }
    }

    private static String answer(Object on, Method m, Object... args) {
        try {
            return String.valueOf(m.invoke(on, args));
        } catch (InvocationTargetException e) {
            return "throws " + e.getCause().getClass().getName();
        } catch (IllegalAccessException e) {
            return "no access";
        }
    }
}
