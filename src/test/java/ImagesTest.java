/** Promises 33 to 37: image, undo, tear, count, status. */
final class ImagesTest {
    private static final Due due = new Due();

    public static void main(String[] args) {
        images();
        count();
        status();
        due.end();
    }

    private static void images() {
        OwingSwings x = Due.with(1, 0);
        x.minutes(3);
        x.dark(7);
        x.sheet(0, 8, 1);
        Due.tell(x, "big");
        due.same("image", x.image(), 1);
        x.minutes(5);
        x.child(4);
        x.turn(0, 5);
        x.set(1, 2, 77);
        x.set(1, 3, 78);
        x.dark(9);
        x.write(0, 0, 5);
        Due.tell(x, ";");
        int before = x.status(-1);
        x.child(-1);
        due.same("undo", x.undo(), 2);
        due.same("minute", x.now(0), 3);
        due.same("dark", x.dark(7), 7);
        due.same("kind", x.of(0, 0), 1);
        due.same("height", x.of(0, 1), 56);
        due.same("marbles", x.of(1, 2), 5);
        due.same("owes", x.of(1, 3), 99994);
        due.same("the tape stays", x.count(1), 4);
        due.same("sheets stay", x.write(0, 0, 5), 5);
        due.same("findings stay", x.status(-1), before + 1);
        x.set(0, 1, 1);
        due.same("undo again", x.undo(), 2);
        due.same("what was kept stays", x.of(0, 1), 56);
        x.set(0, 1, 2);
        x.image();
        x.set(0, 1, 3);
        x.undo();
        due.same("the latest", x.of(0, 1), 2);
        due.same("tear", x.tear(), 1);
        due.same("tear again", x.tear(), 0);
        due.same("undo of nothing", x.undo(), Due.NONE);
        due.same("nothing changed", x.of(0, 1), 2);
    }

    private static void count() {
        OwingSwings x = Due.with(0, 0, 0);
        x.set(0, 2, 99);
        x.set(1, 3, -9999);
        x.set(2, 3, -9999);
        due.same("children", x.count(0), 3);
        due.same("bytes", x.count(1), 0);
        due.same("marbles", x.count(2), 109);
        due.same("owes", x.count(3), 80002);
        due.same("count(4)", x.count(4), Due.BEYOND);
        due.same("count(-1)", x.count(-1), Due.BEYOND);
        for (int far : Due.FAR) {
            due.same("count(far)", x.count(far), Due.BEYOND);
        }
    }

    private static void status() {
        OwingSwings x = Due.with(0, 0, 0, 0, 0, 0, 0, 0);
        x.child(0);
        x.as(0, 1);
        x.undo();
        x.lays(0);
        x.sheet(0, 8, -1);
        x.now(99);
        x.now(99);
        int[] want = {2, 1, 1, 1, 0, 1, 1};
        for (int which = 0; which < 7; which++) {
            due.same("status(" + which + ")", x.status(which), want[which]);
        }
        due.same("status(-1)", x.status(-1), 7);
        due.same("status(7)", x.status(7), Due.BEYOND);
        due.same("counted from then on", x.status(0), 3);
        due.same("status(-2)", x.status(-2), Due.BEYOND);
        due.same("counted in all", x.status(-1), 9);
        for (int far : Due.FAR) {
            due.same("status(far)", x.status(far), Due.BEYOND);
        }
        due.same("all of them", x.status(-1), 15);
        Due.tell(x, "nobody");
        due.same("a FAULT", x.ground(), -1);
        due.same("is no finding", x.status(-1), 15);
    }
}
