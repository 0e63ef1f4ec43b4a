/** Promises 11 to 16, at their edges: minutes, on, owes, level, comes, dust; and that ON changes nothing. */
final class MinutesEdgesTest {
    private static final Due due = new Due();
    private static final Twins twins = new Twins(due);

    public static void main(String[] args) {
        minutes();
        minutesTellTheHighest();
        minutesAreOneByOne();
        minutesBeyondTheLast();
        on();
        onIsWhatMinutesDo();
        owes();
        levelAtOnce();
        levelAtTheLastMinute();
        comes();
        comesAtTheLastMinute();
        dust();
        dustAtTheLastMinute();
        onBeyondTheLast();
        nobodyThere();
        due.end();
    }

    private static void minutes() {
        twins.range("minutes(n)", Twins::mixed, OwingSwings::minutes, 1, 200);
        twins.range("minutes(n), nobody", Twins::nobody, OwingSwings::minutes, 1, 200);
        OwingSwings x = Twins.nobody();
        due.same("minutes(200), nobody", x.minutes(200), -1);
        due.same("200 went", x.now(0), 200);
        due.same("minutes(1), nobody", x.minutes(1), -1);
        due.same("1 went", x.now(0), 201);
    }

    private static void minutesTellTheHighest() {
        due.same("one alone", Twins.one().minutes(1), 0);
        OwingSwings several = Due.with(5, 5, 5, 5, 5, 5, 5, 5);
        for (int i = 0; i < 8; i++) {
            several.set(i, 1, i < 3 ? 100 : 200);
        }
        due.same("of several the least", several.minutes(1), 3);
        OwingSwings later = Due.with(1, 0);
        later.set(1, 1, 53);
        due.same("who is highest then, not before", later.minutes(1), 0);
        OwingSwings last = Due.with(5, 5, 5, 5, 5, 5, 5, 5);
        for (int i = 0; i < 8; i++) {
            last.set(i, 1, 100 + i);
        }
        due.same("the last of eight", last.minutes(1), 7);
    }

    /** 200 at once are as 200 one by one, over three evenings. */
    private static void minutesAreOneByOne() {
        OwingSwings atOnce = Twins.eight();
        OwingSwings oneByOne = Twins.eight();
        int highest = atOnce.minutes(200);
        int then = -1;
        for (int i = 0; i < 200; i++) {
            then = oneByOne.minutes(1);
        }
        due.same("the highest", highest, then);
        for (int child = 0; child < 8; child++) {
            for (int what = 0; what < 7; what++) {
                due.same("of(" + child + ", " + what + ")", atOnce.of(child, what), oneByOne.of(child, what));
            }
        }
    }

    private static void minutesBeyondTheLast() {
        OwingSwings x = Twins.late();
        x.child(1);
        due.same("BEYOND before STATE", x.minutes(201), Due.BEYOND);
        due.same("BEYOND before STATE", x.minutes(0), Due.BEYOND);
        due.same("99800 and 200", x.minutes(200), Due.STATE);
        due.same("nothing went", x.now(0), 99800);
        due.same("99800 and 199", x.minutes(199), 0);
        due.same("99999 and 1", x.minutes(1), Due.STATE);
        due.same("99999 and 200", x.minutes(200), Due.STATE);
        due.same("the greatest is BEYOND", x.minutes(Integer.MAX_VALUE), Due.BEYOND);
        due.same("99999", x.now(0), 99999);
        due.same("STATE was told", x.status(4), 3);
        due.same("findings in all", x.status(-1), 6);
    }

    private static void on() {
        twins.range("on(child, 1, 0)", Twins::mixed, (x, v) -> x.on(v, 1, 0), 0, 5);
        twins.range("on(child, 1, 0), alone", Twins::one, (x, v) -> x.on(v, 1, 0), 0, 0);
        twins.range("on(0, n, 0)", Twins::mixed, (x, v) -> x.on(0, v, 0), 0, 400);
        twins.range("on(0, n, 1)", Twins::mixed, (x, v) -> x.on(0, v, 1), 0, 400);
        twins.range("on(0, 1, what)", Twins::mixed, (x, v) -> x.on(0, 1, v), 0, 1);
        twins.told("on(3, 0, 0)", Twins::mixed, x -> x.on(3, 0, 0), 190);
        twins.told("HEIGHT alone ON 400", Twins::one, x -> x.on(0, 400, 0), 50);
        twins.told("MARBLES alone ON 400", Twins::one, x -> x.on(0, 400, 1), 5);
    }

    /** Of all eight, ON each of 0 to 400 minutes, HEIGHT, MARBLES and OWES are those that are there when they have gone. */
    private static void onIsWhatMinutesDo() {
        int[] gone = {0, 1, 49, 50, 51, 59, 60, 61, 300, 301, 399, 400};
        for (int n : gone) {
            OwingSwings asked = Twins.eight();
            OwingSwings went = Twins.eight();
            for (int i = 0; i < n; i += 100) {
                went.minutes(Math.min(100, n - i));
            }
            for (int child = 0; child < 8; child++) {
                due.same("HEIGHT ON " + n, asked.on(child, n, 0), went.of(child, 1));
                due.same("MARBLES ON " + n, asked.on(child, n, 1), went.of(child, 2));
                due.same("OWES ON " + n, asked.owes(child, n), went.of(child, 3) - 100000);
            }
            due.same("no MINUTE went", asked.now(0), 0);
        }
    }

    private static void owes() {
        twins.range("owes(child, 1)", Twins::mixed, (x, v) -> x.owes(v, 1), 0, 5);
        twins.range("owes(child, 1), alone", Twins::one, (x, v) -> x.owes(v, 1), 0, 0);
        twins.range("owes(0, n)", Twins::mixed, (x, v) -> x.owes(0, v), 0, 400);
        twins.told("below 0", Twins::mixed, x -> x.owes(5, 0), -77);
        int[] ends = {-9999, 9999};
        for (int v : ends) {
            OwingSwings x = Twins.one();
            x.set(0, 3, v);
            due.same("alone, it stays", x.owes(0, 400), v);
        }
        OwingSwings x = Due.with(1, 3);
        x.set(0, 3, 9998);
        x.set(1, 3, -9998);
        due.same("held above", x.owes(0, 1), 9999);
        due.same("held below", x.owes(1, 1), -9999);
        due.same("and not put", x.of(0, 3), 109998);
    }

    private static void levelAtOnce() {
        twins.told("nobody", Twins::nobody, OwingSwings::level, 0);
        twins.told("one alone", Twins::one, OwingSwings::level, 0);
        twins.told("eight at first", Twins::eight, OwingSwings::level, 0);
        twins.refused("never in 400", Twins::mixed, OwingSwings::level, Due.NONE);
    }

    /**
     * SMALL ones without MARBLES, who do nothing by day: with DARK 1 there are 393 minutes of DUSK among the next 400
     * (minutes 0, 60, .. 360 are none), and 393 HEIGHTS (or one more) have to go till all are at 100.
     */
    private static OwingSwings levelAfter(int toGo) {
        OwingSwings x = Due.with(2, 2, 2, 2, 2, 2, 2, 2);
        for (int i = 0; i < 8; i++) {
            x.set(i, 1, i < 4 ? 200 : 0);
            x.set(i, 2, 0);
        }
        x.set(3, 1, 200 - (400 - toGo));
        x.set(7, 1, 400 - toGo);
        x.dark(1);
        return x;
    }

    private static void levelAtTheLastMinute() {
        twins.told("level in 399", () -> levelAfter(392), OwingSwings::level, 399);
        twins.told("level in 400", () -> levelAfter(393), OwingSwings::level, 400);
        twins.refused("level in 401", () -> levelAfter(394), OwingSwings::level, Due.NONE);
        OwingSwings x = levelAfter(394);
        x.minutes(1);
        due.same("one minute on it is in 400", x.level(), 400);
    }

    private static void comes() {
        twins.range("comes(child, 0)", Twins::mixed, (x, v) -> x.comes(v, 0), 0, 5);
        twins.range("comes(child, 0), alone", Twins::one, (x, v) -> x.comes(v, 0), 0, 0);
        twins.range("comes(0, v)", Twins::mixed, (x, v) -> x.comes(0, v), 0, 200);
        twins.told("as high as 0 at once", Twins::one, x -> x.comes(0, 0), 0);
        twins.told("as high as it is at once", Twins::one, x -> x.comes(0, 50), 0);
        twins.refused("alone never higher", Twins::one, x -> x.comes(0, 51), Due.NONE);
        twins.refused("BEYOND before NONE", Twins::one, x -> x.comes(0, 201), Due.BEYOND);
        twins.refused("BEYOND before NONE", Twins::one, x -> x.comes(1, 51), Due.BEYOND);
        OwingSwings top = Due.with(1, 3);
        top.set(0, 1, 190);
        top.set(1, 1, 10);
        due.same("as high as 200", top.comes(0, 200), 2);
        due.same("as high as 196, or higher", top.comes(0, 196), 2);
        due.same("as high as 195", top.comes(0, 195), 1);
        top.set(0, 1, 200);
        due.same("at 200 at once", top.comes(0, 200), 0);
    }

    private static void comesAtTheLastMinute() {
        twins.told("in 400", () -> levelAfter(393), x -> x.comes(7, 100), 400);
        twins.refused("in 401", () -> levelAfter(394), x -> x.comes(7, 100), Due.NONE);
    }

    private static void dust() {
        twins.range("dust(child)", Twins::eight, (x, v) -> x.dust(v), 0, 7);
        twins.range("dust(child), alone", Twins::one, (x, v) -> x.dust(v), 0, 0);
        twins.refused("alone never", Twins::one, x -> x.dust(0), Due.NONE);
        twins.refused("BEYOND before NONE", Twins::one, x -> x.dust(1), Due.BEYOND);
        OwingSwings x = Due.with(1, 3);
        x.set(1, 1, 6);
        due.same("1 is not yet dust", x.dust(1), 2);
        x.set(1, 1, 5);
        due.same("in 1", x.dust(1), 1);
        x.set(1, 1, 0);
        due.same("at once", x.dust(1), 0);
        OwingSwings alone = Twins.one();
        alone.set(0, 1, 1);
        due.same("alone at 1", alone.dust(0), Due.NONE);
        alone.set(0, 1, 0);
        due.same("alone at 0", alone.dust(0), 0);
    }

    /**
     * On a SATURDAY the QUEEN has 4 a minute and yields none; on other days the CHILD has 2 back and ends no minute
     * below 2. From minute 321 or 320 it doesn't come to 0 by that evening; the next SATURDAY starts at 720, when it
     * has 3, and 1 minute later it is in the dust.
     */
    private static OwingSwings queenAt(int minute) {
        OwingSwings x = Twins.saturday();
        x.minutes(minute - 300);
        x.dark(59);
        x.child(4);
        x.child(0);
        x.set(0, 1, 0);
        x.set(1, 1, 200);
        return x;
    }

    private static void dustAtTheLastMinute() {
        twins.told("in 400", () -> queenAt(321), x -> x.dust(1), 400);
        twins.refused("in 401", () -> queenAt(320), x -> x.dust(1), Due.NONE);
    }

    /** ON is held by nothing but its own n: "MINUTE would be above 99999" is said of minutes alone. */
    private static void onBeyondTheLast() {
        OwingSwings x = Twins.late();
        x.minutes(199);
        x.child(1);
        x.child(3);
        due.same("ON 10 from 99999, till 100009", x.on(0, 10, 0), 100);
        due.same("in the dust by then", x.dust(1), 10);
        due.same("ON 400", x.on(0, 400, 1), 5);
        due.same("MINUTE as it was", x.now(0), 99999);
        due.same("no finding", x.status(-1), 0);
    }

    private static void nobodyThere() {
        twins.refused("on(0, 0, 0)", Twins::nobody, x -> x.on(0, 0, 0), Due.BEYOND);
        twins.refused("owes(0, 0)", Twins::nobody, x -> x.owes(0, 0), Due.BEYOND);
        twins.refused("comes(0, 0)", Twins::nobody, x -> x.comes(0, 0), Due.BEYOND);
        twins.refused("dust(0)", Twins::nobody, x -> x.dust(0), Due.BEYOND);
    }
}
