import java.lang.reflect.InvocationTargetException;
import java.lang.reflect.Method;
import java.lang.reflect.Modifier;
import java.util.ArrayList;
import java.util.Comparator;
import java.util.List;

/**
 * Rule 7 of LANGUAGE.md: no call throws or fails to end, for any arguments in any state. Runs of 512
 * calls are drawn by a counter of its own (the same ones each time), most arguments lying at an edge
 * or far off. Each answer is one that may be: a finding that some act tells, or no less than the
 * fault of a full tape. An argument takes the number of runs.
 */
public final class WildTest {
    private static final int[] EDGES = {
        -2, -1, 0, 1, 2, 3, 4, 5, 6, 7, 8, 9, 10, 15, 16, 17, 19, 20, 22, 23, 24, 29, 30, 31, 32, 39, 40, 41, 50, 63, 64, 65, 95, 96, 97, 119,
        120, 121, 199, 200, 255, 256, 399, 400, 401, 959, 960, 961, 1469, 1470, 1519, 1520, 1523, 9998, 9999, 10000, 65535, 65536,
    };
    private static final String[] PIECES = {
        "mill", " 1;", " 2 3", "late", " 29;", "ship", " 3 ", "come", "s 9", " sta", "ys 4", "0 qu", "ay 3", "wind", "floo", "d 1", " per",
        "iod ", "16;", "dorm", "inn0", ";", "z", "0", "9999",
    };
    private static final int LONGEST_SECONDS = 900;

    private static long seed = 1;
    private static volatile String now = "";

    private static int below(int n) {
        seed = seed * 6364136223846793005L + 1442695040888963407L;
        return (int) ((seed >>> 33) % n);
    }

    private static int any(int few) {
        int how = below(20);
        if (how < few) {
            return below(5) - (below(30) == 0 ? 1 : 0);
        }
        if (how < 17) {
            return EDGES[below(EDGES.length)];
        }
        if (how < 19) {
            int wide = Checks.WIDE[below(Checks.WIDE.length)];
            return wide + below(3) - 1;
        }
        return below(Integer.MAX_VALUE) << below(2) ^ -below(2);
    }

    private static int bytes() {
        String piece = PIECES[below(PIECES.length)];
        int bytes = below(3) - 1;
        for (int i = 0; i < piece.length(); i++) {
            bytes = bytes << 8 | piece.charAt(i);
        }
        return bytes;
    }

    private static Object[] arguments(Method m, int few) {
        Class<?>[] types = m.getParameterTypes();
        Object[] a = new Object[types.length];
        for (int i = 0; i < a.length; i++) {
            if (types[i] == long.class) {
                a[i] = below(2) == 0 ? (long) any(few) : (long) any(few) << below(64) | any(few);
            } else {
                a[i] = any(few);
            }
        }
        if (m.getName().equals("feed") && below(4) > 0) {
            a[0] = bytes();
            a[1] = 1 + below(4);
        }
        return a;
    }

    private static boolean mayBe(Method m, long answer) {
        boolean finding = answer <= Checks.BEYOND && answer >= Checks.SIZE && answer != Checks.STATE;
        return m.getName().equals("write") || finding || answer >= -121 && answer <= 80007 || m.getName().equals("sets") && answer < 1 << 30;
    }

    private static void watch() {
        Thread watch = new Thread(() -> {
            try {
                Thread.sleep(1000L * LONGEST_SECONDS);
                System.out.println("it doesn't end: " + now);
                Runtime.getRuntime().halt(1);
            } catch (InterruptedException e) {
                System.out.println("the watch was stopped");
            }
        });
        watch.setDaemon(true);
        watch.start();
    }

    private static List<Method> face() {
        List<Method> face = new ArrayList<>();
        for (Method m : TideQuarter.class.getDeclaredMethods()) {
            if (Modifier.isPublic(m.getModifiers())) {
                face.add(m);
            }
        }
        face.sort(Comparator.comparing(Method::getName));
        return face;
    }

    public static void main(String[] args) throws IllegalAccessException {
        int runs = args.length > 0 ? Integer.parseInt(args[0]) : 3000;
        List<Method> face = face();
        int passed = 0;
        int failed = 0;
        watch();
        for (int run = 1; run <= runs && failed < 5; run++) {
            seed = run;
            int few = below(16);
            TideQuarter x = new TideQuarter();
            for (int i = 0; i < 512 && failed < 5; i++) {
                Method m = face.get(below(face.size()));
                Object[] a = arguments(m, few);
                now = "run " + run + ", call " + i + ", " + m.getName() + List.of(a);
                try {
                    long answer = ((Number) m.invoke(x, a)).longValue();
                    if (!mayBe(m, answer)) {
                        failed++;
                        System.out.println(now + " answered " + answer);
                    }
                    passed++;
                } catch (InvocationTargetException e) {
                    failed++;
                    System.out.println(now + " threw " + e.getCause());
                }
            }
        }
        System.out.println(passed + " passed, " + failed + " failed");
        if (failed != 0) {
            System.exit(1);
        }
    }
}
