/** Compares answers with what is due, and ends a test with exit code 1 if one was wrong. */
final class Due {
    static final int BEYOND = -1000000001;
    static final int FULL = -1000000002;
    static final int KIND = -1000000003;
    static final int NONE = -1000000004;
    static final int STATE = -1000000005;
    static final int MISSING = -1000000006;
    static final int SIZE = -1000000007;

    /** Arguments that no act takes. */
    static final int[] FAR = {Integer.MIN_VALUE, Integer.MIN_VALUE + 1, -1000, 1000, Integer.MAX_VALUE - 1, Integer.MAX_VALUE};

    private int asked = 0;
    private int wrong = 0;

    void same(String call, long got, long want) {
        asked++;
        if (got != want) {
            wrong++;
            if (wrong <= 50) {
                System.out.println(call + " answered " + got + ", due is " + want);
            }
        }
    }

    boolean isWrong() {
        return wrong > 0;
    }

    /** A ground with CHILDREN of these KINDS. */
    static OwingSwings with(int... kinds) {
        OwingSwings x = new OwingSwings();
        for (int kind : kinds) {
            x.child(kind);
        }
        return x;
    }

    /** A text comes to THE TAPE byte by byte, as a test with signs 0 to 255 tells it. */
    static void tell(OwingSwings x, String text) {
        for (int i = 0; i < text.length(); i++) {
            x.feed(text.charAt(i), 1);
        }
    }

    void end() {
        System.out.println(wrong == 0 ? "all " + asked + " answers are as due" : wrong + " of " + asked + " answers are not as due");
        if (wrong != 0) {
            System.exit(1);
        }
    }
}
