/** Promises 1 to 3, at their edges: a new object, dark, now. */
final class GroundEdgesTest {
    private static final Due due = new Due();
    private static final Twins twins = new Twins(due);

    public static void main(String[] args) {
        newObject();
        newObjectsShareNothing();
        dark();
        nowRange();
        nowMinutes();
        nowHeights();
        nowDust();
        nowHighest();
        due.end();
    }

    private static void newObject() {
        OwingSwings x = new OwingSwings();
        due.same("no CHILDREN", x.count(0), 0);
        due.same("THE TAPE is empty", x.count(1), 0);
        due.same("no MARBLES", x.count(2), 0);
        due.same("nobody OWES", x.count(3), 100000);
        due.same("no image is kept", x.tear(), 0);
        due.same("MINUTE", x.now(0), 0);
        due.same("DARK", x.dark(50), 50);
        for (int which = -1; which < 7; which++) {
            due.same("no finding yet", x.status(which), 0);
        }
        for (int s = 0; s < 4; s++) {
            due.same("MISSING at first", x.write(s, 0, 0), Due.MISSING);
        }
        due.same("no image is kept", x.undo(), Due.NONE);
        due.same("the text of nothing", x.ground(), -1);
    }

    private static void newObjectsShareNothing() {
        OwingSwings x = Twins.mixed();
        newObject();
        due.same("and the other one stays", x.count(0), 6);
        due.same("and its tape", x.count(1), 11);
    }

    private static void dark() {
        twins.range("dark(v)", Twins::mixed, OwingSwings::dark, 0, 59);
        OwingSwings x = new OwingSwings();
        int[] put = {0, 59, 59, 1, 0};
        int[] was = {50, 0, 59, 59, 1};
        for (int i = 0; i < put.length; i++) {
            due.same("dark(" + put[i] + ") tells what it was", x.dark(put[i]), was[i]);
        }
        due.same("refused", x.dark(60), Due.BEYOND);
        due.same("and as it was", x.dark(5), 0);
    }

    private static void nowRange() {
        twins.range("now(what)", Twins::mixed, OwingSwings::now, 0, 7);
        twins.range("now(what), nobody", Twins::nobody, OwingSwings::now, 0, 7);
        int[] ofNobody = {0, 0, 0, 0, 0, 1, 0, -1};
        for (int what = 0; what < 8; what++) {
            int asked = what;
            twins.told("now(" + what + ") of nobody", Twins::nobody, x -> x.now(asked), ofNobody[what]);
        }
        int[] ofMixed = {12, 12, 0, 0};
        for (int what = 0; what < 4; what++) {
            int asked = what;
            twins.told("now(" + what + ")", Twins::mixed, x -> x.now(asked), ofMixed[what]);
        }
    }

    private static void nowMinutes() {
        OwingSwings x = Twins.late();
        x.minutes(199);
        due.same("the last MINUTE", x.now(0), 99999);
        due.same("of the day", x.now(1), 39);
        due.same("no DUSK", x.now(2), 0);
        due.same("no SATURDAY", x.now(3), 0);
        x.dark(39);
        due.same("DUSK from 39 on", x.now(2), 1);
    }

    private static OwingSwings eightAt(int height) {
        OwingSwings x = Twins.eight();
        for (int i = 0; i < 8; i++) {
            x.set(i, 1, height);
        }
        return x;
    }

    private static void nowHeights() {
        due.same("one alone", Twins.one().now(4), 50);
        due.same("all in the dust", eightAt(0).now(4), 0);
        due.same("all at the top", eightAt(200).now(4), 1600);
        OwingSwings x = eightAt(200);
        x.set(0, 1, 1);
        x.set(7, 1, 3);
        due.same("the first and the last count", x.now(4), 1204);
    }

    private static void nowDust() {
        due.same("all in the dust", eightAt(0).now(6), 255);
        due.same("1 is none", eightAt(1).now(6), 0);
        for (int child = 0; child < 8; child++) {
            OwingSwings x = eightAt(200);
            x.set(child, 1, 0);
            due.same("one in the dust", x.now(6), 1 << child);
        }
        OwingSwings alone = Twins.one();
        alone.set(0, 1, 0);
        due.same("one alone", alone.now(6), 1);
    }

    private static void nowHighest() {
        due.same("one alone", Twins.one().now(7), 0);
        due.same("of several the least", eightAt(0).now(7), 0);
        due.same("of several the least", eightAt(200).now(7), 0);
        for (int child = 0; child < 8; child++) {
            OwingSwings x = eightAt(199);
            x.set(child, 1, 200);
            due.same("the highest", x.now(7), child);
            x.set(7, 1, 200);
            due.same("of two the least", x.now(7), child);
        }
    }
}
