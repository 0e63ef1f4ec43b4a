import java.lang.reflect.InvocationTargetException;
import java.lang.reflect.Method;
import java.lang.reflect.Modifier;
import java.util.Arrays;

/** Each act with each choice of edges as arguments, the largest and the smallest among them: it answers as the Model does, and nothing throws. */
final class ExtremesTest {
    private static final Due due = new Due();
    private static final int MIN = Integer.MIN_VALUE;
    private static final int MAX = Integer.MAX_VALUE;
    private static final long[] FEW = {MIN, -1, 0, 1, 2, 3, MAX};
    private static final long[] MANY = {MIN, MIN + 1, -10000, -9999, -2, -1, 0, 1, 2, 3, 4, 5, 6, 7, 8, 9, 16, 39, 40, 41, 59, 60, 64, 99, 100, 101,
        120, 121, 200, 201, 400, 401, 9999, 10000, MAX - 1, MAX};
    private static final long[] LONGS = {Long.MIN_VALUE, Long.MAX_VALUE, MIN - 1L, MAX + 1L, -129, -128, 127, 128, 255, 256, 32767, 32768, 65536};
    /** An object is used for at most 512 calls. */
    private static final int CALLS = 400;

    private static final String[][] GROUNDS = {
        {},
        {"child 1"},
        {"child 0", "child 1", "child 2", "child 3", "child 4", "child 5", "child 4", "child 3", "minutes 200", "minutes 110", "image",
            "sheet 0 8 3", "sheet 1 64 3", "sheet 2 64 40", "book 2 4"}};

    private OwingSwings x;
    private Model model;
    private int called;
    private final String[] ground;

    private ExtremesTest(String[] ground) {
        this.ground = ground;
    }

    public static void main(String[] args) throws Exception {
        Method[] acts = Arrays.stream(OwingSwings.class.getDeclaredMethods()).filter(m -> Modifier.isPublic(m.getModifiers())).toArray(Method[]::new);
        due.same("acts in the face", acts.length, 36);
        for (String[] ground : GROUNDS) {
            for (Method act : acts) {
                new ExtremesTest(ground).each(act);
            }
        }
        due.end();
    }

    private void each(Method act) throws Exception {
        begin();
        each(act, new long[act.getParameterCount()], 0);
    }

    private void each(Method act, long[] arguments, int at) throws Exception {
        if (at == arguments.length) {
            both(act, arguments);
            return;
        }
        boolean isLong = act.getParameterTypes()[at] == long.class;
        for (long v : isLong ? LONGS : arguments.length > 3 ? FEW : MANY) {
            arguments[at] = v;
            each(act, arguments, at + 1);
        }
    }

    private void begin() throws Exception {
        x = new OwingSwings();
        model = new Model();
        called = 0;
        for (String told : ground) {
            String[] words = told.split(" ");
            long[] arguments = new long[words.length - 1];
            for (int i = 0; i < arguments.length; i++) {
                arguments[i] = Long.parseLong(words[i + 1]);
            }
            for (Method act : OwingSwings.class.getDeclaredMethods()) {
                if (act.getName().equals(words[0])) {
                    both(act, arguments);
                }
            }
        }
    }

    private void both(Method act, long[] arguments) throws Exception {
        if (called >= CALLS) {
            begin();
        }
        called++;
        Object[] taken = new Object[arguments.length];
        for (int i = 0; i < taken.length; i++) {
            taken[i] = act.getParameterTypes()[i] == long.class ? (Object) arguments[i] : (Object) (int) arguments[i];
        }
        due.same(act.getName() + Arrays.toString(arguments), answer(act, taken), model.call(act.getName(), arguments));
    }

    private long answer(Method act, Object[] taken) throws Exception {
        try {
            return ((Number) act.invoke(x, taken)).longValue();
        } catch (InvocationTargetException thrown) {
            System.out.println(act.getName() + " threw " + thrown.getCause());
            return Long.MIN_VALUE + 1;
        }
    }
}
