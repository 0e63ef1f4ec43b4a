/** Promises 33 to 37, at their edges: image, undo, tear, count, status. */
final class ImagesEdgesTest {
    private static final Due due = new Due();
    private static final Twins twins = new Twins(due);

    public static void main(String[] args) {
        imageChangesNothingElse();
        undoOfNothing();
        undoTakesAllOfSectionOne();
        undoLeavesTheRest();
        undoOfNobodyAndOfEight();
        undoAgain();
        undoAtTheLastMinute();
        latestImage();
        tear();
        count();
        countEnds();
        status();
        statusOfEachFinding();
        statusOfItself();
        due.end();
    }

    // "All that section 1 tells (THE TAPE not) is kept: 1."

    private static void imageChangesNothingElse() {
        OwingSwings x = Twins.mixed();
        OwingSwings twin = Twins.mixed();
        due.same("image", x.image(), 1);
        due.same("image again", x.image(), 1);
        due.same("kept", x.undo(), 6);
        twin.image();
        twins.alike("it is as it was", x, twin);
    }

    // "NONE: nothing is kept."

    private static void undoOfNothing() {
        twins.refused("nobody, nothing kept", Twins::nobody, OwingSwings::undo, Due.NONE);
        twins.refused("eight, nothing kept", Twins::eight, OwingSwings::undo, Due.NONE);
        twins.refused("torn", ImagesEdgesTest::torn, OwingSwings::undo, Due.NONE);
    }

    private static OwingSwings torn() {
        OwingSwings x = Twins.mixed();
        x.tear();
        return x;
    }

    // "It becomes what was kept latest (which stays): how many CHILDREN."

    private static void undoTakesAllOfSectionOne() {
        OwingSwings x = Twins.eight();
        x.set(7, 1, 0);
        x.set(7, 2, 99);
        x.set(7, 3, -9999);
        x.dark(59);
        x.minutes(61);
        OwingSwings twin = Twins.eight();
        twin.set(7, 1, 0);
        twin.set(7, 2, 99);
        twin.set(7, 3, -9999);
        twin.dark(59);
        twin.minutes(61);
        x.image();
        twin.image();
        x.minutes(200);
        x.dark(0);
        for (int child = 0; child < 8; child++) {
            x.turn(child, 5 - child % 6);
            x.set(child, 1, 200);
            x.set(child, 2, 0);
            x.set(child, 3, 9999);
        }
        x.swap(0, 7);
        due.same("undo", x.undo(), 8);
        twins.alike("all is as it was kept", x, twin);
    }

    private static void undoLeavesTheRest() {
        OwingSwings x = Twins.one();
        x.image();
        x.feed(0, 4);
        x.sheet(0, 8, 2);
        x.write(0, 1, 9);
        x.now(8);
        x.lays(1);
        due.same("undo", x.undo(), 1);
        due.same("THE TAPE stays", x.count(1), 4);
        due.same("the sheets stay", x.write(0, 1, 0), 9);
        due.same("findings stay", x.status(-1), 2);
        due.same("of each kind", x.status(0), 1);
        due.same("of each kind", x.status(5), 1);
        due.same("the image stays", x.tear(), 1);
    }

    private static void undoOfNobodyAndOfEight() {
        OwingSwings x = new OwingSwings();
        x.image();
        for (int i = 0; i < 8; i++) {
            x.child(i % 6);
        }
        due.same("nobody was there", x.undo(), 0);
        due.same("nobody is", x.count(0), 0);
        due.same("none is highest", x.now(7), -1);
        due.same("none in the dust", x.now(6), 0);
        due.same("no child 0", x.of(0, 0), Due.BEYOND);
        OwingSwings y = Twins.eight();
        y.image();
        due.same("eight are", y.undo(), 8);
        due.same("and full", y.child(0), Due.FULL);
    }

    private static void undoAgain() {
        OwingSwings x = Twins.one();
        x.image();
        for (int i = 0; i < 3; i++) {
            x.child(0);
            x.set(0, 1, i);
            due.same("what was kept stays", x.undo(), 1);
            due.same("and so does this", x.of(0, 1), 50);
        }
        due.same("no finding", x.status(-1), 0);
    }

    private static void undoAtTheLastMinute() {
        OwingSwings x = new OwingSwings();
        x.image();
        for (int i = 0; i < 499; i++) {
            x.minutes(200);
        }
        due.same("full of MINUTES", x.minutes(200), Due.STATE);
        due.same("undo", x.undo(), 0);
        due.same("MINUTE 0", x.now(0), 0);
        due.same("and on again", x.minutes(200), -1);
        due.same("STATE is not taken back", x.status(4), 1);
    }

    private static void latestImage() {
        OwingSwings x = Twins.one();
        x.image();
        x.child(2);
        x.dark(3);
        x.image();
        x.child(3);
        x.dark(4);
        due.same("the latest", x.undo(), 2);
        due.same("the latest DARK", x.dark(3), 3);
        x.minutes(1);
        due.same("and none before it", x.undo(), 2);
        due.same("of this too", x.now(0), 0);
    }

    // "Nothing is kept: 1 if something was, else 0."

    private static void tear() {
        twins.told("nothing was kept", Twins::nobody, OwingSwings::tear, 0);
        twins.told("nothing was kept by eight", Twins::eight, OwingSwings::tear, 0);
        OwingSwings x = new OwingSwings();
        x.image();
        due.same("of nobody something was kept", x.tear(), 1);
        due.same("and is no more", x.tear(), 0);
        due.same("so none to come back", x.undo(), Due.NONE);
        x.child(1);
        x.image();
        x.image();
        due.same("two are one", x.tear(), 1);
        due.same("and it is gone", x.tear(), 0);
        x.image();
        due.same("kept again", x.undo(), 1);
        due.same("undo tears nothing", x.tear(), 1);
    }

    // "0 CHILDREN, 1 bytes of THE TAPE, 2 MARBLES of all together, 3 100000 and OWES of all together. BEYOND: another what."

    private static void count() {
        twins.range("count(what)", Twins::mixed, OwingSwings::count, 0, 3);
        twins.range("count(what), nobody", Twins::nobody, OwingSwings::count, 0, 3);
        int[] ofNobody = {0, 0, 0, 100000};
        int[] ofOne = {1, 0, 5, 100000};
        int[] ofEight = {8, 0, 40, 100000};
        for (int what = 0; what < 4; what++) {
            int asked = what;
            twins.told("count(" + what + ") of nobody", Twins::nobody, x -> x.count(asked), ofNobody[what]);
            twins.told("count(" + what + ") of one", Twins::one, x -> x.count(asked), ofOne[what]);
            twins.told("count(" + what + ") of eight", Twins::eight, x -> x.count(asked), ofEight[what]);
        }
    }

    private static void countEnds() {
        int[][] ends = {{99, 9999, 792, 179992}, {0, -9999, 0, 20008}};
        for (int[] end : ends) {
            OwingSwings x = Twins.eight();
            for (int child = 0; child < 8; child++) {
                x.set(child, 2, end[0]);
                x.set(child, 3, end[1]);
            }
            due.same("MARBLES of all", x.count(2), end[2]);
            due.same("OWES of all", x.count(3), end[3]);
        }
        OwingSwings x = new OwingSwings();
        for (int i = 0; i < 30; i++) {
            x.feed(0, 4);
        }
        due.same("a full tape", x.count(1), 120);
    }

    // "which -1: all, 0 to 6: BEYOND to SIZE. BEYOND (counted from then on): another one."

    private static void status() {
        twins.range("status(which)", Twins::mixed, OwingSwings::status, -1, 6);
        twins.range("status(which), nobody", Twins::nobody, OwingSwings::status, -1, 6);
        twins.told("all", Twins::mixed, x -> x.status(-1), 2);
        int[] ofMixed = {1, 0, 1, 0, 0, 0, 0};
        for (int which = 0; which < 7; which++) {
            int asked = which;
            twins.told("status(" + which + ")", Twins::mixed, x -> x.status(asked), ofMixed[which]);
        }
    }

    private static void statusOfEachFinding() {
        OwingSwings x = Twins.late();
        x.minutes(201);
        x.minutes(200);
        x.undo();
        x.lays(0);
        x.write(3, 0, 0);
        due.same("BEYOND and no more", x.status(0), 1);
        due.same("NONE", x.status(3), 1);
        due.same("STATE", x.status(4), 1);
        due.same("MISSING, in longs too", x.status(5), 2);
        due.same("all", x.status(-1), 5);
        OwingSwings y = Twins.eight();
        y.child(0);
        y.child(0);
        y.child(0);
        y.as(0, 1);
        y.as(0, 1);
        y.sheet(0, 8, -1);
        int[] want = {0, 3, 2, 0, 0, 0, 1};
        for (int which = 0; which < 7; which++) {
            due.same("status(" + which + ")", y.status(which), want[which]);
        }
        due.same("all", y.status(-1), 6);
    }

    private static void statusOfItself() {
        OwingSwings x = new OwingSwings();
        int[] others = {-2, 7, Integer.MIN_VALUE, Integer.MAX_VALUE};
        for (int i = 0; i < others.length; i++) {
            due.same("another one", x.status(others[i]), Due.BEYOND);
            due.same("counted from then on", x.status(0), i + 1);
            due.same("in all too", x.status(-1), i + 1);
        }
        for (int which = 1; which < 7; which++) {
            due.same("none of the others", x.status(which), 0);
        }
        x.image();
        x.status(99);
        x.undo();
        due.same("undo() takes none back", x.status(-1), 5);
    }
}
