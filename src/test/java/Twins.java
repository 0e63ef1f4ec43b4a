import java.util.Arrays;

/** Calls an act on one of two objects that were made alike, and looks whether they still are alike. */
final class Twins {
    interface Maker {
        OwingSwings make();
    }

    interface Act {
        long on(OwingSwings x);
    }

    interface ActWith {
        long on(OwingSwings x, int v);
    }

    private static final int LOOK = 700;

    private final Due due;

    Twins(Due due) {
        this.due = due;
    }

    /** "One that answers a finding changes nothing but status()." */
    void refused(String call, Maker maker, Act act, long finding) {
        OwingSwings x = maker.make();
        OwingSwings twin = maker.make();
        due.same(call, act.on(x), finding);
        int kind = (int) (Due.BEYOND - finding);
        for (int which = -1; which < 7; which++) {
            int more = which == -1 || which == kind ? 1 : 0;
            due.same(call + ": status(" + which + ")", x.status(which), twin.status(which) + more);
        }
        due.same(call + ": nothing changes", Arrays.equals(look(x), look(twin)) ? 1 : 0, 1);
    }

    /** An act that only tells: its answer is due, it is no finding and nothing changes. */
    void told(String call, Maker maker, Act act, long answer) {
        OwingSwings x = maker.make();
        OwingSwings twin = maker.make();
        due.same(call, act.on(x), answer);
        due.same(call + ": no finding", x.status(-1), twin.status(-1));
        due.same(call + ": nothing changes", Arrays.equals(look(x), look(twin)) ? 1 : 0, 1);
    }

    /** An act that only looks: whatever it answers, nothing changes, and a finding alone is counted. */
    void looked(String call, Maker maker, Act act) {
        OwingSwings x = maker.make();
        OwingSwings twin = maker.make();
        int findings = act.on(x) < -1000000000 ? 1 : 0;
        due.same(call + ": findings", x.status(-1), twin.status(-1) + findings);
        due.same(call + ": nothing changes", Arrays.equals(look(x), look(twin)) ? 1 : 0, 1);
    }

    /** Two objects that came the one and the other way to the same; neither is of use then. */
    void alike(String when, OwingSwings x, OwingSwings twin) {
        for (int which = -1; which < 7; which++) {
            due.same(when + ": status(" + which + ")", x.status(which), twin.status(which));
        }
        due.same(when, Arrays.equals(look(x), look(twin)) ? 1 : 0, 1);
    }

    /** The least and the greatest are taken; one beyond on either side, and what is farthest, is BEYOND. */
    void range(String call, Maker maker, ActWith act, int least, int most) {
        for (int v : new int[] {least, most}) {
            OwingSwings x = maker.make();
            int before = x.status(0);
            act.on(x, v);
            due.same(call + " with " + v + " is taken", x.status(0), before);
        }
        for (int v : new int[] {least - 1, most + 1, Integer.MIN_VALUE, Integer.MAX_VALUE}) {
            refused(call + " with " + v, maker, x -> act.on(x, v), Due.BEYOND);
        }
    }

    /** All that can be seen of an object but status(); it is of no more use then. */
    private static long[] look(OwingSwings x) {
        long[] seen = new long[LOOK];
        int at = lookAtGround(x, seen, 0);
        at = lookAtSheets(x, seen, at);
        seen[at++] = x.count(1);
        seen[at++] = x.ground();
        at = lookAtGround(x, seen, at);
        seen[at++] = x.undo();
        at = lookAtGround(x, seen, at);
        seen[at++] = x.tear();
        return seen;
    }

    private static int lookAtGround(OwingSwings x, long[] seen, int from) {
        int at = from;
        for (int what = 0; what < 8; what++) {
            seen[at++] = x.now(what);
        }
        int dark = x.dark(0);
        x.dark(dark);
        seen[at++] = dark;
        seen[at++] = x.count(0);
        for (int child = 0; child < 8; child++) {
            for (int what = 0; what < 4; what++) {
                seen[at++] = x.of(child, what);
            }
        }
        return at;
    }

    /** What each number was, and how much of 1 in each half of a long it holds: that tells its bits. */
    private static int lookAtSheets(OwingSwings x, long[] seen, int from) {
        int at = from;
        for (int s = 0; s < 4; s++) {
            seen[at++] = x.copy(s, 0, s, 0, 0);
            for (int i = 0; i < 40; i++) {
                int before = x.status(-1);
                seen[at++] = x.write(s, i, 0x100000100L);
                if (x.status(-1) != before) {
                    break;
                }
                seen[at++] = i == 0 ? x.write(s, i, 0) : 0;
            }
        }
        return at;
    }

    /** A little of everything: six CHILDREN, an image, a TEXT on THE TAPE, three sheets, and findings told before. */
    static OwingSwings mixed() {
        OwingSwings x = Due.with(0, 1, 2, 3, 4, 5);
        x.minutes(7);
        x.dark(40);
        x.image();
        x.minutes(5);
        x.dark(30);
        x.set(3, 1, 190);
        x.set(5, 3, -77);
        x.sheet(0, 8, 2);
        x.write(0, 1, 21);
        x.sheet(1, 64, 3);
        x.write(1, 0, 1L << 40);
        x.sheet(2, 16, 0);
        Due.tell(x, "dark 7;baby");
        x.now(8);
        x.as(0, 1);
        return x;
    }

    static OwingSwings nobody() {
        return new OwingSwings();
    }

    static OwingSwings one() {
        return Due.with(1);
    }

    static OwingSwings eight() {
        return Due.with(0, 1, 2, 3, 4, 5, 0, 1);
    }

    /** Minute 0 of the first SATURDAY, with nobody there yet. */
    static OwingSwings saturday() {
        OwingSwings x = new OwingSwings();
        x.minutes(200);
        x.minutes(100);
        return x;
    }

    /** MINUTE 99800, by 499 calls: 13 more may follow. */
    static OwingSwings late() {
        OwingSwings x = new OwingSwings();
        for (int i = 0; i < 499; i++) {
            x.minutes(200);
        }
        return x;
    }
}
