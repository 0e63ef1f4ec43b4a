/** "An object is used for at most 512 calls after it has been made": the 512th answers as the first ones do, whichever they are. */
final class CallsTest {
    private static final Due due = new Due();
    private static final int CALLS = 512;

    public static void main(String[] args) {
        findings();
        minutes();
        looksAhead();
        texts();
        sheets();
        images();
        swaps();
        due.end();
    }

    /** All but the last answer a finding, of four kinds in turn. */
    private static void findings() {
        OwingSwings x = new OwingSwings();
        int[] want = {Due.BEYOND, Due.NONE, Due.MISSING, Due.SIZE};
        for (int i = 0; i < CALLS - 1; i++) {
            int got = i % 4 == 0 ? x.push(0, 1) : i % 4 == 1 ? x.undo() : i % 4 == 2 ? x.lays(3) : x.sheet(0, 8, -1);
            due.same("finding " + i, got, want[i % 4]);
        }
        due.same("the 512th call counts the 511 before", x.status(-1), 511);
    }

    /** 200 at a time as long as they may go, and then one finding after the other. */
    private static void minutes() {
        OwingSwings x = new OwingSwings();
        for (int i = 1; i < CALLS; i++) {
            due.same("minutes, call " + i, x.minutes(200), i < 500 ? -1 : Due.STATE);
        }
        due.same("the 512th call", x.now(0), 99800);
    }

    private static void looksAhead() {
        OwingSwings x = Due.with(1, 0);
        for (int i = 3; i < CALLS; i++) {
            due.same("ON, call " + i, x.on(0, 10, 0), 70);
        }
        due.same("the 512th call", x.read(0, 0, 1), Due.MISSING);
        OwingSwings y = Due.with(1, 0);
        y.sheet(0, 8, 1);
        y.write(0, 0, 50);
        for (int i = 5; i <= CALLS; i++) {
            due.same("read, call " + i, y.read(0, 0, 1), 36);
        }
    }

    private static void texts() {
        OwingSwings x = new OwingSwings();
        for (int i = 0; i < CALLS / 4; i++) {
            due.same("dark", x.feed(0x6461726b, 4), 4);
            due.same("a number", x.feed('0' + i % 10, 1), 5);
            due.same("ground", x.ground(), 1);
            due.same("DARK, call " + 4 * (i + 1), x.dark(50), i % 10);
        }
    }

    private static void sheets() {
        OwingSwings x = new OwingSwings();
        x.sheet(0, 64, 40);
        for (int i = 1; i < CALLS; i++) {
            due.same("write, call " + i, x.write(0, i % 40, i), i < 40 ? 0 : i - 40);
        }
    }

    private static void images() {
        OwingSwings x = new OwingSwings();
        for (int i = 0; i < CALLS / 4; i++) {
            due.same("image", x.image(), 1);
            due.same("child", x.child(i % 6), 0);
            due.same("undo", x.undo(), 0);
            due.same("tear, call " + 4 * (i + 1), x.tear(), 1);
        }
    }

    private static void swaps() {
        OwingSwings x = Due.with(1, 2);
        for (int i = 0; i < CALLS / 2 - 1; i++) {
            due.same("swap", x.swap(0, 1), 1);
            due.same("who is there, call " + (2 * i + 4), x.of(0, 0), i % 2 == 0 ? 2 : 1);
        }
    }
}
