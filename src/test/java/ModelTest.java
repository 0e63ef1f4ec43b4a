import java.lang.reflect.InvocationTargetException;
import java.lang.reflect.Method;
import java.util.Arrays;
import java.util.Comparator;
import java.util.Random;

/** Every promise, in runs of calls drawn from a fixed seed: the class and the Model answer alike, and nothing throws. */
final class ModelTest {
    private static final Due due = new Due();
    private static final int RUNS = 450;
    /** "An object is used for at most 512 calls after it has been made." */
    private static final int CALLS = 512;
    /** A text is fed by fewer calls than these. */
    private static final int CALLS_OF_A_TEXT = 140;
    private static final int[] EDGES = {-1, 0, 1, 5, 6, 7, 8, 39, 40, 41, 59, 60, 99, 100, 101, 119, 120, 121, 200, 201, 400, 401,
        9999, 10000, -9999, -10000, Integer.MIN_VALUE, Integer.MAX_VALUE};
    private static final String[] PIECES = {"child", "big", "small", "kind", "queen", "baby", "high", "marbles", "push", "dark", ";", ";", ";",
        " ", " ", "0", "1", "7", "59", "60", "99", "100", "200", "201", "1000", "x", "#", "99999999999"};
    private static final String[] ITEMS = {"child", "big high 90", "small marbles 9", "kind high 199 marbles 0", "queen", "baby high 61",
        "push 0 9", "push 3 99", "dark 40", "dark 0"};

    private static int called;

    public static void main(String[] args) throws Exception {
        Method[] face = OwingSwings.class.getDeclaredMethods();
        Method[] acts = Arrays.stream(face).filter(m -> java.lang.reflect.Modifier.isPublic(m.getModifiers()))
            .sorted(Comparator.comparing(Method::getName)).toArray(Method[]::new);
        due.same("acts in the face", acts.length, 36);
        Random random = new Random(20261118);
        for (int run = 0; run < RUNS && !due.isWrong(); run++) {
            oneRun(run, acts, random);
        }
        due.end();
    }

    private static void oneRun(int run, Method[] acts, Random random) throws Exception {
        OwingSwings x = new OwingSwings();
        Model model = new Model();
        called = 0;
        int grown = random.nextInt(9);
        for (int i = 0; i < grown; i++) {
            int kind = random.nextInt(6);
            both("run " + run + " child", x.child(kind), model.call("child", kind));
            int height = random.nextInt(201);
            both("run " + run + " set", x.set(i, 1, height), model.call("set", i, 1, height));
        }
        while (called < CALLS && !due.isWrong()) {
            if (called < CALLS - CALLS_OF_A_TEXT && random.nextInt(12) == 0) {
                tellBoth(run, x, model, random);
            } else {
                callBoth(run, x, model, acts[random.nextInt(acts.length)], random);
            }
        }
        due.same("calls of one object", called, CALLS);
    }

    private static void both(String call, long got, long want) {
        called++;
        due.same(call, got, want);
    }

    private static void callBoth(int run, OwingSwings x, Model model, Method act, Random random) throws Exception {
        String name = act.getName();
        boolean isDear = "marbles enough night read".contains(name);
        if (isDear && random.nextInt(4) != 0 || name.equals("tear") && random.nextInt(8) != 0) {
            return;
        }
        Class<?>[] types = act.getParameterTypes();
        Object[] taken = new Object[types.length];
        long[] told = new long[types.length];
        for (int i = 0; i < types.length; i++) {
            long v = argument(name, i, random);
            if (types[i] == int.class) {
                taken[i] = (int) v;
                told[i] = (int) v;
            } else {
                taken[i] = v;
                told[i] = v;
            }
        }
        long got;
        try {
            got = ((Number) act.invoke(x, taken)).longValue();
        } catch (InvocationTargetException thrown) {
            System.out.println(thrown.getCause());
            got = Long.MIN_VALUE + 1;
        }
        both("run " + run + " " + name + Arrays.toString(told), got, model.call(name, told));
    }

    /** Mostly what the act takes, at times an edge or anything. */
    private static long argument(String name, int i, Random random) {
        int chance = random.nextInt(30);
        if (chance == 0) {
            return EDGES[random.nextInt(EDGES.length)];
        }
        if (chance == 1) {
            return random.nextLong();
        }
        int[] below = usual(name);
        int most = i < below.length ? below[i] : 6;
        return random.nextInt(most) + (name.equals("set") && i == 1 || most == 201 && random.nextInt(3) == 0 ? 1 : 0);
    }

    /** For each argument a number above the ones that are usual. */
    private static int[] usual(String name) {
        switch (name) {
            case "dark":
                return new int[] {60};
            case "now":
                return new int[] {8};
            case "of":
                return new int[] {8, 7};
            case "set":
                return new int[] {8, 3, 201};
            case "turn":
            case "as":
                return new int[] {8, 6};
            case "push":
                return new int[] {8, 100};
            case "swap":
                return new int[] {8, 8};
            case "minutes":
                return new int[] {120};
            case "on":
                return new int[] {8, 401, 2};
            case "owes":
                return new int[] {8, 401};
            case "comes":
                return new int[] {8, 201};
            case "dust":
                return new int[] {8};
            case "place":
            case "kind":
                return new int[] {8, 101};
            case "marbles":
            case "enough":
                return new int[] {8, 101, 201};
            case "night":
                return new int[] {121};
            case "whom":
                return new int[] {100, 101};
            case "debtor":
                return new int[] {401};
            case "feed":
                return new int[] {Integer.MAX_VALUE, 5};
            case "sheet":
                return new int[] {4, 1, 41};
            case "write":
                return new int[] {4, 20, 300};
            case "copy":
                return new int[] {4, 9, 4, 9, 9};
            case "lays":
                return new int[] {4};
            case "book":
            case "read":
                return new int[] {4, 8, 8};
            case "count":
                return new int[] {4};
            case "status":
                return new int[] {7};
            default:
                return new int[0];
        }
    }

    /** A text, whole or spoilt, and a sheet, which single random calls would seldom make. */
    private static void tellBoth(int run, OwingSwings x, Model model, Random random) {
        if (random.nextBoolean()) {
            int[] bits = {0, 8, 16, 64, 64, 8, 7};
            int s = random.nextInt(4);
            int b = bits[random.nextInt(bits.length)];
            int n = random.nextInt(12);
            both("run " + run + " sheet", x.sheet(s, b, n), model.call("sheet", s, b, n));
            int child = random.nextInt(8);
            both("run " + run + " book", x.book(s, child), model.call("book", s, child));
            int other = random.nextInt(8);
            both("run " + run + " read", x.read(s, child, other), model.call("read", s, child, other));
            return;
        }
        both("run " + run + " wipe", x.wipe(), model.call("wipe"));
        StringBuilder text = new StringBuilder();
        int pieces = random.nextInt(5) + 1;
        for (int i = 0; i < pieces; i++) {
            text.append(i == 0 ? "" : ";").append(ITEMS[random.nextInt(ITEMS.length)]);
        }
        if (random.nextInt(3) == 0) {
            text.insert(random.nextInt(text.length() + 1), PIECES[random.nextInt(PIECES.length)]);
        }
        if (random.nextInt(6) == 0) {
            text.setLength(0);
            for (int i = 0; i < 6; i++) {
                text.append(PIECES[random.nextInt(PIECES.length)]);
            }
        }
        for (int i = 0; i < text.length(); i++) {
            both("run " + run + " feed", x.feed(text.charAt(i), 1), model.call("feed", text.charAt(i), 1));
        }
        both("run " + run + " ground of '" + text + "'", x.ground(), model.call("ground"));
    }
}
