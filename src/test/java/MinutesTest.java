/** Promises 11 to 16: minutes, on, owes, level, comes, dust; and how a MINUTE goes. */
final class MinutesTest {
    private static final Due due = new Due();

    public static void main(String[] args) {
        having();
        paying();
        giving();
        dusk();
        holding();
        onSaturday();
        onALongRun();
        theLastMinute();
        edges();
        due.end();
    }

    private static void heights(String when, OwingSwings x, int... want) {
        for (int i = 0; i < want.length; i++) {
            due.same(when + ": height of " + i, x.of(i, 1), want[i]);
        }
    }

    private static void having() {
        OwingSwings x = Due.with(1, 0);
        due.same("minutes(1)", x.minutes(1), 0);
        heights("big and child", x, 52, 48);
        due.same("owes of big", x.of(0, 3), 100002);
        due.same("owes of child", x.of(1, 3), 99998);
        OwingSwings y = Due.with(0, 1, 0);
        due.same("minutes(1), three", y.minutes(1), 1);
        heights("three", y, 50, 52, 48);
        OwingSwings alone = Due.with(1);
        due.same("minutes(200), alone", alone.minutes(200), 0);
        heights("alone", alone, 50);
        due.same("minutes(1), nobody", new OwingSwings().minutes(1), -1);
        OwingSwings babies = Due.with(5, 5);
        babies.set(0, 1, 61);
        babies.minutes(1);
        heights("a baby above 60 has none", babies, 60, 51);
    }

    private static void paying() {
        OwingSwings x = Due.with(2, 3);
        x.set(0, 2, 2);
        x.set(1, 2, 98);
        x.minutes(1);
        heights("small pays", x, 51, 49);
        due.same("it paid", x.of(0, 2), 1);
        due.same("to the next", x.of(1, 2), 99);
        x.minutes(1);
        due.same("the last one", x.of(0, 2), 0);
        due.same("99 at most", x.of(1, 2), 99);
        x.minutes(1);
        heights("none to pay with", x, 52, 48);
        x.set(0, 2, 1);
        x.set(1, 1, 0);
        x.minutes(1);
        due.same("nothing had, nothing paid", x.of(0, 2), 1);
        OwingSwings full = Due.with(2, 0);
        full.set(0, 1, 200);
        full.minutes(1);
        due.same("at 200 nothing is paid", full.of(0, 2), 5);
    }

    private static void giving() {
        OwingSwings x = Due.with(3, 3);
        x.set(0, 1, 56);
        x.minutes(1);
        heights("kind one gives", x, 53, 53);
        due.same("owes less", x.of(0, 3), 99997);
        due.same("the other more", x.of(1, 3), 100003);
        x.minutes(1);
        heights("no lower one", x, 53, 53);
        x.set(0, 1, 200);
        x.set(1, 1, 199);
        x.minutes(1);
        heights("as much as lacks to 200, and back", x, 200, 199);
        x.set(0, 1, 1);
        x.set(1, 1, 0);
        x.minutes(1);
        heights("as much as it has, and back", x, 1, 0);
        OwingSwings y = Due.with(3, 0);
        y.set(0, 2, 0);
        y.set(0, 1, 51);
        y.minutes(1);
        heights("gives without marbles, has none back by yields", y, 46, 55);
    }

    private static void dusk() {
        OwingSwings x = Due.with(1, 1, 1, 1);
        x.dark(0);
        x.set(0, 1, 10);
        x.set(1, 1, 13);
        x.set(2, 1, 13);
        x.set(3, 1, 10);
        due.same("level() at dusk", x.level(), 2);
        due.same("highest then", x.minutes(1), 2);
        heights("first at dusk", x, 11, 12, 13, 10);
        due.same("owes of the lowest", x.of(0, 3), 100001);
        due.same("owes of the highest", x.of(1, 3), 99999);
        x.minutes(1);
        heights("second at dusk", x, 11, 12, 12, 11);
        due.same("level() then", x.level(), 0);
        x.minutes(1);
        heights("one apart stays", x, 11, 12, 12, 11);
    }

    private static void holding() {
        OwingSwings x = Due.with(1, 3);
        x.set(0, 3, 9997);
        x.set(1, 3, -9997);
        due.same("owes ON 1", x.owes(0, 1), 9999);
        due.same("owes ON 1, other", x.owes(1, 1), -9999);
        due.same("owes ON 0", x.owes(0, 0), 9997);
        x.set(1, 3, 0);
        x.minutes(1);
        due.same("each held for itself", x.of(0, 3) - 100000, 9999);
        due.same("the other not", x.of(1, 3) - 100000, -5);
    }

    private static void onSaturday() {
        OwingSwings x = Due.with(4, 3);
        x.dark(0);
        x.minutes(200);
        x.minutes(100);
        x.dark(59);
        x.minutes(1);
        heights("queen on Saturday", x, 60, 40);
        OwingSwings y = Due.with(4, 0);
        y.dark(0);
        y.minutes(200);
        y.minutes(100);
        y.dark(59);
        y.minutes(1);
        heights("queen yields nothing on Saturday", y, 54, 46);
    }

    /** BIG keeps 2 a minute of CHILD till that has 2 left (had and had back), and loses 10 each evening. */
    private static void onALongRun() {
        OwingSwings x = Due.with(1, 0);
        due.same("on 0", x.on(0, 0, 0), 50);
        due.same("on 10", x.on(0, 10, 0), 70);
        due.same("on 24", x.on(0, 24, 0), 98);
        due.same("on 25", x.on(0, 25, 0), 98);
        due.same("on 50", x.on(0, 50, 0), 98);
        due.same("on 51", x.on(0, 51, 0), 97);
        due.same("on 60", x.on(0, 60, 0), 88);
        due.same("owes 60", x.owes(0, 60), 38);
        due.same("owes 60, other", x.owes(1, 60), -38);
        due.same("comes 50", x.comes(0, 50), 0);
        due.same("comes 51", x.comes(0, 51), 1);
        due.same("comes 98", x.comes(0, 98), 24);
        due.same("comes 99", x.comes(0, 99), Due.NONE);
        due.same("no dust", x.dust(1), Due.NONE);
        due.same("level at first", x.level(), 0);
        due.same("nothing changed", x.now(0), 0);
        heights("nothing changed", x, 50, 50);
        OwingSwings y = Due.with(2, 3);
        due.same("marbles on 3", y.on(0, 3, 1), 2);
        due.same("marbles on 3, other", y.on(1, 3, 1), 8);
        due.same("marbles on 400", y.on(0, 400, 1), 0);
        x.minutes(1);
        due.same("never level", x.level(), Due.NONE);
        OwingSwings down = Due.with(1, 3);
        due.same("dust", down.dust(1), 10);
        due.same("comes with it", down.comes(0, 100), 10);
        down.set(1, 1, 0);
        due.same("dust now", down.dust(1), 0);
        OwingSwings z = Due.with(0, 0);
        z.dark(0);
        z.set(0, 1, 200);
        z.set(1, 1, 0);
        due.same("level after 100", z.level(), 100);
        due.same("comes after 100", z.comes(1, 100), 100);
        due.same("comes never", z.comes(1, 101), Due.NONE);
        due.same("comes 0", z.comes(1, 0), 0);
        int[] kinds = new int[8];
        OwingSwings all = Due.with(kinds);
        all.dark(0);
        for (int i = 0; i < 8; i++) {
            all.set(i, 1, i < 4 ? 200 : 0);
        }
        due.same("level after 400, the last that is looked at", all.level(), 400);
        due.same("the last one comes with it", all.comes(7, 100), 400);
    }

    private static void theLastMinute() {
        OwingSwings x = Due.with(1, 0);
        for (int i = 0; i < 499; i++) {
            x.minutes(200);
        }
        due.same("99800", x.now(0), 99800);
        due.same("200 more are too many", x.minutes(200), Due.STATE);
        due.same("BEYOND before STATE", x.minutes(201), Due.BEYOND);
        due.same("nothing went", x.now(0), 99800);
        x.minutes(199);
        due.same("99999", x.now(0), 99999);
        due.same("1 more is too many", x.minutes(1), Due.STATE);
        due.same("ON goes on till minute 49 of the day", x.on(0, 11, 0), 98);
        due.same("ON goes on in the dusk", x.on(0, 12, 0), 97);
        due.same("status of STATE", x.status(4), 2);
    }

    private static void edges() {
        OwingSwings x = Due.with(0, 0);
        due.same("minutes(0)", x.minutes(0), Due.BEYOND);
        due.same("minutes(201)", x.minutes(201), Due.BEYOND);
        due.same("on n -1", x.on(0, -1, 0), Due.BEYOND);
        due.same("on n 401", x.on(0, 401, 0), Due.BEYOND);
        due.same("on what 2", x.on(0, 0, 2), Due.BEYOND);
        due.same("on what -1", x.on(0, 0, -1), Due.BEYOND);
        due.same("owes n 401", x.owes(0, 401), Due.BEYOND);
        due.same("owes n -1", x.owes(0, -1), Due.BEYOND);
        due.same("comes v 201", x.comes(0, 201), Due.BEYOND);
        due.same("comes v -1", x.comes(0, -1), Due.BEYOND);
        due.same("on n 400", x.on(0, 400, 0), 50);
        int[] wrong = {Integer.MIN_VALUE, -1, 2, Integer.MAX_VALUE};
        for (int child : wrong) {
            due.same("on a wrong one", x.on(child, 0, 0), Due.BEYOND);
            due.same("owes a wrong one", x.owes(child, 0), Due.BEYOND);
            due.same("comes a wrong one", x.comes(child, 0), Due.BEYOND);
            due.same("dust a wrong one", x.dust(child), Due.BEYOND);
            due.same("minutes wrong", x.minutes(child == 2 ? 201 : child), Due.BEYOND);
        }
        due.same("level of nobody", new OwingSwings().level(), 0);
        due.same("level of one", Due.with(4).level(), 0);
    }
}
