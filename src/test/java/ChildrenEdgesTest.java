/** Promises 4 to 10, at their edges: child, of, set, turn, as, push, swap. */
final class ChildrenEdgesTest {
    private static final Due due = new Due();
    private static final Twins twins = new Twins(due);

    public static void main(String[] args) {
        child();
        childAfterUndo();
        of();
        ofOwes();
        set();
        setTellsWhatItWas();
        turn();
        as();
        push();
        swap();
        nobodyThere();
        due.end();
    }

    private static void child() {
        twins.range("child(kind)", Twins::mixed, OwingSwings::child, 0, 5);
        twins.range("child(kind), nobody", Twins::nobody, OwingSwings::child, 0, 5);
        for (int kind = 0; kind < 6; kind++) {
            int asked = kind;
            twins.refused("a 9th", Twins::eight, x -> x.child(asked), Due.FULL);
        }
        twins.refused("a 9th of kind 6: BEYOND before FULL", Twins::eight, x -> x.child(6), Due.BEYOND);
        twins.refused("a 9th of kind -1: BEYOND before FULL", Twins::eight, x -> x.child(-1), Due.BEYOND);
        OwingSwings x = Twins.eight();
        x.undo();
        due.same("still no room", x.child(0), Due.FULL);
    }

    /** The rows are used again: what an earlier one had must not come to a later one. */
    private static void childAfterUndo() {
        OwingSwings x = Twins.one();
        x.image();
        x.child(4);
        x.set(1, 1, 200);
        x.set(1, 2, 99);
        x.set(1, 3, 9999);
        due.same("undo", x.undo(), 1);
        due.same("its HEIGHT is gone from all", x.now(4), 50);
        due.same("its MARBLES are gone from all", x.count(2), 5);
        due.same("what it OWES is gone from all", x.count(3), 100000);
        due.same("it is nobody", x.of(1, 1), Due.BEYOND);
        due.same("alone again", x.of(0, 4), 100);
        due.same("nobody to change with", x.place(0, 1), Due.NONE);
        due.same("one more", x.child(0), 1);
        int[] want = {0, 50, 5, 100000, 102, 0, 4};
        for (int what = 0; what < 7; what++) {
            due.same("as at first", x.of(1, what), want[what]);
        }
    }

    private static void of() {
        twins.range("of(child, 1)", Twins::mixed, (x, v) -> x.of(v, 1), 0, 5);
        twins.range("of(child, 1), eight", Twins::eight, (x, v) -> x.of(v, 1), 0, 7);
        twins.range("of(child, 1), alone", Twins::one, (x, v) -> x.of(v, 1), 0, 0);
        twins.range("of(0, what)", Twins::mixed, (x, v) -> x.of(0, v), 0, 6);
        twins.refused("both wrong are one finding", Twins::mixed, x -> x.of(6, 7), Due.BEYOND);
        int[] want = {5, 50, 5, 100000, 101, 0, 8};
        for (int what = 0; what < 7; what++) {
            int asked = what;
            twins.told("of(5, " + what + ")", Twins::eight, x -> x.of(5, asked), want[what]);
        }
    }

    private static void ofOwes() {
        int[] owes = {-9999, -1, 0, 1, 9999};
        for (int v : owes) {
            OwingSwings x = Twins.one();
            x.set(0, 3, v);
            due.same("100000 and " + v, x.of(0, 3), 100000 + v);
        }
    }

    private static void set() {
        twins.range("set(child, 1, 1)", Twins::mixed, (x, v) -> x.set(v, 1, 1), 0, 5);
        twins.range("set(child, 2, 1), alone", Twins::one, (x, v) -> x.set(v, 2, 1), 0, 0);
        twins.range("set(0, what, 1)", Twins::mixed, (x, v) -> x.set(0, v, 1), 1, 3);
        twins.range("set(0, 1, v)", Twins::mixed, (x, v) -> x.set(0, 1, v), 0, 200);
        twins.range("set(0, 2, v)", Twins::mixed, (x, v) -> x.set(0, 2, v), 0, 99);
        twins.range("set(0, 3, v)", Twins::mixed, (x, v) -> x.set(0, 3, v), -9999, 9999);
        twins.refused("all wrong are one finding", Twins::mixed, x -> x.set(6, 0, 10000), Due.BEYOND);
    }

    private static void setTellsWhatItWas() {
        int[][] ends = {{0, 200}, {0, 99}, {-9999, 9999}};
        int[] atFirst = {50, 5, 0};
        for (int what = 1; what <= 3; what++) {
            OwingSwings x = Twins.eight();
            int least = ends[what - 1][0];
            int most = ends[what - 1][1];
            due.same("what it was at first", x.set(7, what, least), atFirst[what - 1]);
            due.same("the least", x.set(7, what, most), least);
            due.same("the most", x.set(7, what, most), most);
            for (int other = 0; other < 7; other++) {
                due.same("the others stay", x.set(other, what, 1), atFirst[what - 1]);
            }
            for (int another = 1; another <= 3; another++) {
                due.same("only that", x.set(7, another, 0), another == what ? most : atFirst[another - 1]);
            }
        }
    }

    private static void turn() {
        twins.range("turn(child, 0)", Twins::mixed, (x, v) -> x.turn(v, 0), 0, 5);
        twins.range("turn(1, kind)", Twins::mixed, (x, v) -> x.turn(1, v), 0, 5);
        twins.range("turn(child, 0), alone", Twins::one, (x, v) -> x.turn(v, 0), 0, 0);
        twins.told("turn to what it is", Twins::mixed, x -> x.turn(4, 4), 4);
        for (int from = 0; from < 6; from++) {
            for (int to = 0; to < 6; to++) {
                OwingSwings x = Twins.eight();
                x.set(from, 1, 7);
                x.set(from, 2, 8);
                x.set(from, 3, 9);
                due.same("what it was", x.turn(from, to), from);
                int[] want = {to, 7, 8, 100009};
                for (int what = 0; what < 4; what++) {
                    due.same("as another one it has the same", x.of(from, what), want[what]);
                }
            }
        }
    }

    private static void as() {
        twins.range("as(child, 0)", Twins::mixed, (x, v) -> x.as(v, 0), 0, 5);
        twins.range("as(5, kind)", Twins::mixed, (x, v) -> x.as(5, v), 0, 5);
        twins.refused("no such one before KIND", Twins::mixed, x -> x.as(6, 1), Due.BEYOND);
        twins.refused("no such kind before KIND", Twins::mixed, x -> x.as(0, 6), Due.BEYOND);
        int[] above = {-1, 0, 0, 0, 1, 2};
        for (int child = 0; child < 6; child++) {
            for (int kind = 0; kind < 6; kind++) {
                int who = child;
                int asked = kind;
                boolean is = kind == child || kind == above[child] || kind == 0;
                if (is) {
                    twins.told("as(" + who + ", " + asked + ")", Twins::eight, x -> x.as(who, asked), 50);
                } else {
                    twins.refused("as(" + who + ", " + asked + ")", Twins::eight, x -> x.as(who, asked), Due.KIND);
                }
            }
        }
        OwingSwings x = Twins.one();
        x.set(0, 1, 0);
        due.same("HEIGHT 0", x.as(0, 1), 0);
        x.set(0, 1, 200);
        due.same("HEIGHT 200", x.as(0, 0), 200);
        x.turn(0, 5);
        due.same("no longer", x.as(0, 1), Due.KIND);
        due.same("by then", x.as(0, 2), 200);
    }

    private static void push() {
        twins.range("push(child, 1)", Twins::mixed, (x, v) -> x.push(v, 1), 0, 5);
        twins.range("push(child, 1), alone", Twins::one, (x, v) -> x.push(v, 1), 0, 0);
        twins.range("push(0, v)", Twins::mixed, (x, v) -> x.push(0, v), 1, 99);
        int[] from = {0, 101, 102, 199, 200};
        int[] by = {1, 99, 99, 1, 1};
        int[] to = {1, 200, 200, 200, 200};
        for (int i = 0; i < from.length; i++) {
            OwingSwings x = Twins.one();
            x.set(0, 1, from[i]);
            due.same("push from " + from[i], x.push(0, by[i]), to[i]);
            due.same("and so high it is", x.of(0, 1), to[i]);
        }
    }

    private static void swap() {
        twins.range("swap(child, 1)", Twins::mixed, (x, v) -> x.swap(v, 1), 0, 5);
        twins.range("swap(1, other)", Twins::mixed, (x, v) -> x.swap(1, v), 0, 5);
        for (int child = 0; child < 6; child++) {
            int who = child;
            twins.refused("one and the same", Twins::mixed, x -> x.swap(who, who), Due.BEYOND);
        }
        twins.refused("one and the same, nobody", Twins::mixed, x -> x.swap(6, 6), Due.BEYOND);
        twins.refused("one alone", Twins::one, x -> x.swap(0, 0), Due.BEYOND);
        twins.refused("one alone and nobody", Twins::one, x -> x.swap(0, 1), Due.BEYOND);
        OwingSwings x = Twins.eight();
        x.set(0, 3, 9999);
        x.set(7, 1, 200);
        x.set(7, 2, 0);
        due.same("the first and the last", x.swap(7, 0), 1);
        int[] first = {1, 200, 0, 100000};
        int[] last = {0, 50, 5, 109999};
        for (int what = 0; what < 4; what++) {
            due.same("what was the last", x.of(0, what), first[what]);
            due.same("what was the first", x.of(7, what), last[what]);
        }
        due.same("and back", x.swap(0, 7), 1);
        due.same("as it was", x.of(0, 3), 109999);
    }

    private static void nobodyThere() {
        twins.refused("of(0, 0)", Twins::nobody, x -> x.of(0, 0), Due.BEYOND);
        twins.refused("set(0, 1, 1)", Twins::nobody, x -> x.set(0, 1, 1), Due.BEYOND);
        twins.refused("turn(0, 0)", Twins::nobody, x -> x.turn(0, 0), Due.BEYOND);
        twins.refused("as(0, 0)", Twins::nobody, x -> x.as(0, 0), Due.BEYOND);
        twins.refused("push(0, 1)", Twins::nobody, x -> x.push(0, 1), Due.BEYOND);
        twins.refused("swap(0, 1)", Twins::nobody, x -> x.swap(0, 1), Due.BEYOND);
    }
}
