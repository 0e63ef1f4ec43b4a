/** Promises 1 to 3: a new object, dark, now. */
final class GroundTest {
    private static final Due due = new Due();

    public static void main(String[] args) {
        newObject();
        dark();
        now();
        saturday();
        due.end();
    }

    private static void newObject() {
        OwingSwings x = new OwingSwings();
        due.same("new count(0)", x.count(0), 0);
        due.same("new count(1)", x.count(1), 0);
        due.same("new count(2)", x.count(2), 0);
        due.same("new count(3)", x.count(3), 100000);
        due.same("new now(0)", x.now(0), 0);
        due.same("new now(7)", x.now(7), -1);
        due.same("new status(-1)", x.status(-1), 0);
        due.same("new dark(50)", x.dark(50), 50);
        due.same("new tear()", x.tear(), 0);
        due.same("new undo()", x.undo(), Due.NONE);
        due.same("new wipe()", x.wipe(), 0);
        due.same("new of(0, 1)", x.of(0, 1), Due.BEYOND);
        for (int s = 0; s < 4; s++) {
            due.same("new write", x.write(s, 0, 1), Due.MISSING);
        }
    }

    private static void dark() {
        OwingSwings x = new OwingSwings();
        due.same("dark(0)", x.dark(0), 50);
        due.same("dark(59)", x.dark(59), 0);
        due.same("dark(60)", x.dark(60), Due.BEYOND);
        due.same("dark(-1)", x.dark(-1), Due.BEYOND);
        for (int far : Due.FAR) {
            due.same("dark(far)", x.dark(far), Due.BEYOND);
        }
        due.same("dark after findings", x.dark(10), 59);
    }

    private static void now() {
        OwingSwings x = Due.with(0, 0, 0);
        due.same("now(2) by day", x.now(2), 0);
        due.same("now(4)", x.now(4), 150);
        due.same("now(5) level", x.now(5), 1);
        due.same("now(6) none", x.now(6), 0);
        due.same("now(7) of several the least", x.now(7), 0);
        x.set(0, 1, 51);
        due.same("now(5) one apart", x.now(5), 1);
        x.set(1, 1, 49);
        due.same("now(5) two apart", x.now(5), 0);
        x.set(0, 1, 0);
        x.set(2, 1, 0);
        due.same("now(6) set", x.now(6), 5);
        due.same("now(7)", x.now(7), 1);
        due.same("now(4) then", x.now(4), 49);
        OwingSwings y = new OwingSwings();
        y.minutes(49);
        due.same("now(2) at 49", y.now(2), 0);
        y.minutes(1);
        due.same("now(2) at 50", y.now(2), 1);
        y.minutes(9);
        due.same("now(2) at 59", y.now(2), 1);
        due.same("now(1) at 59", y.now(1), 59);
        y.minutes(1);
        due.same("now(0) at 60", y.now(0), 60);
        due.same("now(1) at 60", y.now(1), 0);
        due.same("now(2) at 60", y.now(2), 0);
        y.dark(0);
        due.same("now(2) all dark", y.now(2), 1);
        due.same("now(8)", y.now(8), Due.BEYOND);
        due.same("now(-1)", y.now(-1), Due.BEYOND);
        for (int far : Due.FAR) {
            due.same("now(far)", y.now(far), Due.BEYOND);
        }
    }

    private static void saturday() {
        OwingSwings x = new OwingSwings();
        int[] at = {299, 300, 359, 360, 719, 720, 779, 780};
        int[] is = {0, 1, 1, 0, 0, 1, 1, 0};
        for (int i = 0; i < at.length; i++) {
            while (x.now(0) < at[i]) {
                x.minutes(Math.min(200, at[i] - x.now(0)));
            }
            due.same("now(3) at " + at[i], x.now(3), is[i]);
        }
    }
}
