/** Promises 4 to 10: child, of, set, turn, as, push, swap. */
final class ChildrenTest {
    private static final Due due = new Due();

    public static void main(String[] args) {
        child();
        of();
        ofOnSaturday();
        set();
        turn();
        as();
        push();
        swap();
        wrongChildren();
        due.end();
    }

    private static void child() {
        OwingSwings x = new OwingSwings();
        for (int i = 0; i < 8; i++) {
            due.same("child", x.child(i % 6), i);
            due.same("kind of a new one", x.of(i, 0), i % 6);
            due.same("height of a new one", x.of(i, 1), 50);
            due.same("marbles of a new one", x.of(i, 2), 5);
            due.same("owes of a new one", x.of(i, 3), 100000);
        }
        due.same("a 9th", x.child(0), Due.FULL);
        due.same("BEYOND before FULL", x.child(6), Due.BEYOND);
        due.same("child(-1)", x.child(-1), Due.BEYOND);
        for (int far : Due.FAR) {
            due.same("child(far)", x.child(far), Due.BEYOND);
        }
        due.same("still eight", x.count(0), 8);
    }

    private static void of() {
        int[] wants = {102, 105, 101, 100, 105, 101};
        int[] pays = {0, 0, 1, 0, 0, 0};
        int[] yields = {4, 2, 8, 50, 2, 8};
        for (int kind = 0; kind < 6; kind++) {
            OwingSwings alone = Due.with(kind);
            due.same("wants alone", alone.of(0, 4), 100);
            due.same("pays alone", alone.of(0, 5), pays[kind]);
            due.same("yields alone", alone.of(0, 6), yields[kind]);
            OwingSwings x = Due.with(kind, 0);
            due.same("wants", x.of(0, 4), wants[kind]);
            due.same("pays", x.of(0, 5), pays[kind]);
            due.same("yields", x.of(0, 6), yields[kind]);
        }
        OwingSwings x = Due.with(3, 5, 3);
        x.set(1, 1, 49);
        due.same("kind one, next lower", x.of(0, 4), 97);
        x.set(1, 1, 51);
        due.same("kind one, next higher", x.of(0, 4), 100);
        x.set(0, 1, 49);
        due.same("the last one's next is 0", x.of(2, 4), 97);
        x.set(2, 1, 199);
        due.same("kind one yields its height", x.of(2, 6), 199);
        x.set(1, 1, 60);
        due.same("baby at 60", x.of(1, 4), 101);
        x.set(1, 1, 61);
        due.same("baby at 61", x.of(1, 4), 100);
        due.same("of(0, 7)", x.of(0, 7), Due.BEYOND);
        due.same("of(0, -1)", x.of(0, -1), Due.BEYOND);
        x.set(0, 3, -9999);
        due.same("owes may be below 0", x.of(0, 3), 90001);
    }

    private static void ofOnSaturday() {
        OwingSwings x = Due.with(4, 1);
        x.minutes(200);
        x.minutes(99);
        due.same("queen wants on Friday", x.of(0, 4), 105);
        due.same("queen yields on Friday", x.of(0, 6), 2);
        x.minutes(1);
        due.same("queen wants on Saturday", x.of(0, 4), 110);
        due.same("queen yields on Saturday", x.of(0, 6), 0);
        due.same("big wants on Saturday", x.of(1, 4), 105);
        due.same("big yields on Saturday", x.of(1, 6), 2);
    }

    private static void set() {
        OwingSwings x = Due.with(0, 0);
        due.same("set height", x.set(1, 1, 200), 50);
        due.same("set height 0", x.set(1, 1, 0), 200);
        due.same("set marbles", x.set(1, 2, 99), 5);
        due.same("set marbles 0", x.set(1, 2, 0), 99);
        due.same("set owes", x.set(1, 3, 9999), 0);
        due.same("set owes low", x.set(1, 3, -9999), 9999);
        due.same("set owes again", x.set(1, 3, 7), -9999);
        due.same("height 201", x.set(1, 1, 201), Due.BEYOND);
        due.same("height -1", x.set(1, 1, -1), Due.BEYOND);
        due.same("marbles 100", x.set(1, 2, 100), Due.BEYOND);
        due.same("marbles -1", x.set(1, 2, -1), Due.BEYOND);
        due.same("owes 10000", x.set(1, 3, 10000), Due.BEYOND);
        due.same("owes -10000", x.set(1, 3, -10000), Due.BEYOND);
        due.same("set what 0", x.set(1, 0, 1), Due.BEYOND);
        due.same("set what 4", x.set(1, 4, 1), Due.BEYOND);
        due.same("height kept", x.of(1, 1), 0);
        due.same("marbles kept", x.of(1, 2), 0);
        due.same("owes kept", x.of(1, 3), 100007);
        due.same("the other one kept", x.of(0, 1), 50);
    }

    private static void turn() {
        OwingSwings x = Due.with(2, 0);
        x.set(0, 1, 77);
        due.same("turn", x.turn(0, 5), 2);
        due.same("turn to the same", x.turn(0, 5), 5);
        due.same("kind then", x.of(0, 0), 5);
        due.same("height as before", x.of(0, 1), 77);
        due.same("turn(0, 6)", x.turn(0, 6), Due.BEYOND);
        due.same("turn(0, -1)", x.turn(0, -1), Due.BEYOND);
        due.same("kind as before", x.of(0, 0), 5);
    }

    private static void as() {
        int[][] isUnder = {
            {1, 0, 0, 0, 0, 0},
            {1, 1, 0, 0, 0, 0},
            {1, 0, 1, 0, 0, 0},
            {1, 0, 0, 1, 0, 0},
            {1, 1, 0, 0, 1, 0},
            {1, 0, 1, 0, 0, 1}};
        OwingSwings x = Due.with(0, 1, 2, 3, 4, 5);
        for (int child = 0; child < 6; child++) {
            x.set(child, 1, 100 + child);
            for (int kind = 0; kind < 6; kind++) {
                due.same("as(" + child + ", " + kind + ")", x.as(child, kind), isUnder[child][kind] == 1 ? 100 + child : Due.KIND);
            }
            due.same("as kind 6", x.as(child, 6), Due.BEYOND);
            due.same("as kind -1", x.as(child, -1), Due.BEYOND);
        }
    }

    private static void push() {
        OwingSwings x = Due.with(0, 0);
        due.same("push 1", x.push(0, 1), 51);
        due.same("push 99", x.push(0, 99), 150);
        due.same("push 50", x.push(0, 50), 200);
        due.same("push no higher", x.push(0, 1), 200);
        due.same("push 0", x.push(1, 0), Due.BEYOND);
        due.same("push 100", x.push(1, 100), Due.BEYOND);
        due.same("not from the next one", x.of(1, 1), 50);
        due.same("owes nothing", x.of(0, 3), 100000);
    }

    private static void swap() {
        OwingSwings x = Due.with(4, 2, 3);
        x.set(0, 1, 10);
        x.set(0, 2, 11);
        x.set(0, 3, 12);
        due.same("swap", x.swap(0, 2), 1);
        int[] first = {3, 50, 5, 100000};
        int[] last = {4, 10, 11, 100012};
        for (int what = 0; what < 4; what++) {
            due.same("first then", x.of(0, what), first[what]);
            due.same("last then", x.of(2, what), last[what]);
        }
        due.same("the one between", x.of(1, 0), 2);
        due.same("swap(1, 1)", x.swap(1, 1), Due.BEYOND);
        due.same("swap(0, 3)", x.swap(0, 3), Due.BEYOND);
        due.same("swap(3, 0)", x.swap(3, 0), Due.BEYOND);
        due.same("swap(-1, 0)", x.swap(-1, 0), Due.BEYOND);
    }

    private static void wrongChildren() {
        OwingSwings x = Due.with(0, 0);
        int[] wrong = {Integer.MIN_VALUE, -1, 2, 8, Integer.MAX_VALUE};
        for (int child : wrong) {
            due.same("of a wrong one", x.of(child, 1), Due.BEYOND);
            due.same("set a wrong one", x.set(child, 1, 1), Due.BEYOND);
            due.same("turn a wrong one", x.turn(child, 1), Due.BEYOND);
            due.same("as a wrong one", x.as(child, 0), Due.BEYOND);
            due.same("push a wrong one", x.push(child, 1), Due.BEYOND);
            due.same("swap a wrong one", x.swap(0, child), Due.BEYOND);
        }
    }
}
