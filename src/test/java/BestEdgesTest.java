/** Promises 17 to 23, at their edges: place, kind, marbles, night, enough, whom, debtor. */
final class BestEdgesTest {
    private static final Due due = new Due();
    private static final Twins twins = new Twins(due);

    public static void main(String[] args) {
        place();
        placeHigherThanAsItIs();
        placeOfSeveral();
        kind();
        kindOfSeveral();
        kindEach();
        marbles();
        marblesLeastAndMost();
        night();
        nightOfSeveral();
        nightLeastAndMost();
        enough();
        enoughLeastAndMost();
        whom();
        whomOfSeveral();
        debtor();
        debtorOfSeveral();
        nobodyThere();
        due.end();
    }

    private static OwingSwings high(OwingSwings x, int... heights) {
        for (int i = 0; i < heights.length; i++) {
            x.set(i, 1, heights[i]);
        }
        return x;
    }

    /** SMALL ones without MARBLES do nothing by day. */
    private static OwingSwings idle(int... heights) {
        OwingSwings x = new OwingSwings();
        for (int i = 0; i < heights.length; i++) {
            x.child(2);
            x.set(i, 1, heights[i]);
            x.set(i, 2, 0);
        }
        return x;
    }

    private static OwingSwings withIdleThird(int first, int second) {
        OwingSwings x = high(Due.with(first, second, 2), 50, 50, 0);
        x.set(2, 2, 0);
        return x;
    }

    private static void place() {
        twins.range("place(child, 1)", Twins::mixed, (x, v) -> x.place(v, 1), 0, 5);
        twins.range("place(child, 1), alone", Twins::one, (x, v) -> x.place(v, 1), 0, 0);
        twins.range("place(0, n)", Twins::mixed, (x, v) -> x.place(0, v), 1, 100);
        twins.refused("one alone", Twins::one, x -> x.place(0, 1), Due.NONE);
        twins.refused("one alone, the most", Twins::one, x -> x.place(0, 100), Due.NONE);
        twins.refused("BEYOND before NONE", Twins::one, x -> x.place(0, 0), Due.BEYOND);
        twins.refused("BEYOND before NONE", Twins::one, x -> x.place(0, 101), Due.BEYOND);
    }

    private static void placeHigherThanAsItIs() {
        twins.refused("as high anywhere", () -> idle(50, 50, 50), x -> x.place(1, 1), Due.NONE);
        // BIG has 5 of the KIND ONE, and on the other swings nothing of the idle one, which is in the dust
        twins.refused("lower anywhere", () -> withIdleThird(1, 3), x -> x.place(0, 1), Due.NONE);
        // 2 of the BIG one as it is; 5 of the KIND ONE less 2 on swing 1, and less 2 on swing 2
        twins.told("higher on both", () -> Due.with(1, 1, 3), x -> x.place(0, 1), 1);
        twins.refused("at the top", () -> idle(200, 100), x -> x.place(0, 100), Due.NONE);
    }

    /** BIG has 5 of a KIND ONE and nothing of those in the dust: on each swing before a KIND ONE it is as high. */
    private static void placeOfSeveral() {
        OwingSwings x = Due.with(1, 2, 2, 3, 2, 3, 2, 2);
        for (int i = 1; i < 8; i++) {
            x.set(i, 2, 0);
            x.set(i, 1, i == 3 || i == 5 ? 50 : 0);
        }
        due.same("of 2 and 4 the least", x.place(0, 1), 2);
        x.swap(3, 6);
        due.same("4 is first now", x.place(0, 1), 4);
        x.swap(5, 7);
        due.same("the least of 5 and 6", x.place(0, 1), 5);
        due.same("and none of all this is there", x.of(0, 0), 1);
        // on swing 0 as on swing 1 BIG comes to sit before the KIND ONE
        twins.told("of 0 and 1 the least", BestEdgesTest::bigBehindKindOne, y -> y.place(2, 1), 0);
    }

    private static OwingSwings bigBehindKindOne() {
        OwingSwings x = high(Due.with(2, 3, 1), 0, 50, 50);
        x.set(0, 2, 0);
        return x;
    }

    private static void kind() {
        twins.range("kind(child, 1)", Twins::mixed, (x, v) -> x.kind(v, 1), 0, 5);
        twins.range("kind(child, 1), alone", Twins::one, (x, v) -> x.kind(v, 1), 0, 0);
        twins.range("kind(0, n)", Twins::mixed, (x, v) -> x.kind(0, v), 1, 100);
        twins.told("alone all are as good", Twins::one, x -> x.kind(0, 1), 0);
        twins.told("alone all are as good, the most", Twins::one, x -> x.kind(0, 100), 0);
    }

    private static void kindOfSeveral() {
        twins.told("all as high at 200", () -> idle(200, 0), x -> x.kind(0, 1), 0);
        twins.told("all in the dust", () -> idle(0, 0), x -> x.kind(0, 1), 0);
        twins.told("of BIG and QUEEN the least", () -> idle(50, 50), x -> x.kind(0, 1), 1);
    }

    /**
     * A KIND ONE at 57, of which the BIG one has 5, gives 3 to the first one if that is lower than 52: without MARBLES
     * only a BABY has 1 before and is still lower; with one MARBLE a SMALL one is as good.
     */
    private static OwingSwings byBigAndKindOne(int marbles) {
        OwingSwings x = high(Due.with(0, 1, 3), 50, 50, 57);
        x.set(0, 2, marbles);
        return x;
    }

    private static void kindEach() {
        twins.told("BABY, the last", () -> byBigAndKindOne(0), x -> x.kind(0, 1), 5);
        twins.told("SMALL, the least of two", () -> byBigAndKindOne(1), x -> x.kind(0, 1), 2);
        OwingSwings queen = Twins.saturday();
        queen.child(0);
        queen.child(3);
        due.same("QUEEN on a SATURDAY", queen.kind(0, 1), 4);
        // having 1 or more makes it as high as the KIND ONE behind it, who then gives nothing; SMALL can't pay
        OwingSwings none = high(Due.with(0, 2, 3), 50, 50, 51);
        none.set(0, 2, 0);
        none.set(1, 2, 0);
        due.same("BIG has 5 of a SMALL one", none.kind(0, 1), 1);
        none.turn(1, 1);
        none.set(2, 1, 56);
        due.same("SMALL has none and is given 3", none.kind(0, 1), 2);
        none.set(1, 1, 49);
        due.same("a KIND ONE would give first", none.kind(0, 1), 2);
        none.set(1, 1, 50);
        none.set(0, 2, 1);
        due.same("KIND ONE, since a SMALL one could pay", none.kind(0, 1), 3);
        // CHILD is at 52 by then, lower than the 53 of the KIND ONE, and is given 3; BIG has 4 and is not
        due.same("CHILD, the first", high(Due.with(5, 0, 3), 50, 50, 55).kind(0, 1), 0);
    }

    private static void marbles() {
        twins.range("marbles(child, 1, 0)", Twins::mixed, (x, v) -> x.marbles(v, 1, 0), 0, 5);
        twins.range("marbles(child, 1, 0), alone", Twins::one, (x, v) -> x.marbles(v, 1, 0), 0, 0);
        twins.range("marbles(0, n, 0)", Twins::mixed, (x, v) -> x.marbles(0, v, 0), 1, 100);
        twins.range("marbles(0, 1, v)", Twins::mixed, (x, v) -> x.marbles(0, 1, v), 0, 200);
        twins.told("alone as high as it is", Twins::one, x -> x.marbles(0, 100, 50), 0);
        twins.refused("alone no higher", Twins::one, x -> x.marbles(0, 100, 51), Due.NONE);
        twins.refused("BEYOND before NONE", Twins::one, x -> x.marbles(0, 0, 51), Due.BEYOND);
        twins.refused("BEYOND before NONE", Twins::one, x -> x.marbles(0, 101, 51), Due.BEYOND);
        twins.refused("BEYOND before NONE", Twins::one, x -> x.marbles(0, 1, 201), Due.BEYOND);
    }

    /** SMALL by a KIND ONE has 1 a minute and pays 1; the one minute of DUSK among 100 takes 1 back. */
    private static OwingSwings smallAt(int height) {
        OwingSwings x = high(Due.with(2, 3), height, 100);
        x.dark(59);
        return x;
    }

    private static void marblesLeastAndMost() {
        twins.told("none are enough", () -> smallAt(100), x -> x.marbles(0, 1, 100), 0);
        twins.told("one is enough", () -> smallAt(100), x -> x.marbles(0, 1, 101), 1);
        twins.refused("1 minute, 2 more", () -> smallAt(100), x -> x.marbles(0, 1, 102), Due.NONE);
        twins.told("98 are enough", () -> smallAt(100), x -> x.marbles(0, 100, 197), 98);
        twins.told("99 are enough", () -> smallAt(100), x -> x.marbles(0, 100, 198), 99);
        twins.refused("100 would be", () -> smallAt(100), x -> x.marbles(0, 100, 199), Due.NONE);
        twins.told("as high as 200", () -> smallAt(199), x -> x.marbles(0, 1, 200), 1);
        twins.told("0 is any HEIGHT", () -> smallAt(0), x -> x.marbles(0, 1, 0), 0);
    }

    private static void night() {
        twins.range("night(n)", Twins::mixed, OwingSwings::night, 1, 120);
        twins.range("night(n), nobody", Twins::nobody, OwingSwings::night, 1, 120);
        twins.told("nobody", Twins::nobody, x -> x.night(1), 0);
        twins.told("nobody, the most", Twins::nobody, x -> x.night(120), 0);
        twins.told("one alone", Twins::one, x -> x.night(120), 0);
    }

    private static void nightOfSeveral() {
        twins.told("all as good: 1 apart", () -> idle(50, 51), x -> x.night(120), 0);
        twins.told("all as good: level", () -> Due.with(3, 3), x -> x.night(1), 0);
        twins.told("4 apart, both of 2 minutes are wanted", () -> idle(50, 54), x -> x.night(2), 0);
        twins.told("200 apart, and 1 minute", () -> idle(0, 200), x -> x.night(1), 0);
        OwingSwings x = idle(50, 50);
        x.minutes(10);
        x.set(1, 1, 52);
        due.same("at minute 10 DARK 0 to 10 are as good", x.night(1), 0);
        due.same("DARK as it was", x.dark(50), 50);
    }

    /** At minute m of the day a KIND ONE 6 above the other gives 3 and all is level, if DARK is above m. */
    private static void nightLeastAndMost() {
        for (int minute = 0; minute < 59; minute += 29) {
            OwingSwings x = Due.with(3, 3);
            if (minute > 0) {
                x.minutes(minute);
            }
            x.set(0, 1, 56);
            due.same("night(1) at " + minute, x.night(1), minute + 1);
        }
        OwingSwings last = Due.with(3, 3);
        last.minutes(59);
        last.set(0, 1, 56);
        due.same("at 59 it is DUSK with each", last.night(1), 0);
        OwingSwings far = Due.with(3, 3);
        far.set(0, 1, 200);
        far.set(1, 1, 0);
        due.same("of 200 apart 6 go a minute by day, 2 at DUSK", far.night(1), 1);
    }

    private static void enough() {
        twins.range("enough(child, 0, 0)", Twins::mixed, (x, v) -> x.enough(v, 0, 0), 0, 5);
        twins.range("enough(child, 0, 0), alone", Twins::one, (x, v) -> x.enough(v, 0, 0), 0, 0);
        twins.range("enough(0, n, 0)", Twins::mixed, (x, v) -> x.enough(0, v, 0), 0, 100);
        twins.range("enough(0, 0, v)", Twins::mixed, (x, v) -> x.enough(0, 0, v), 0, 200);
    }

    private static void enoughLeastAndMost() {
        int[] v = {0, 50, 51, 148, 149};
        int[] want = {0, 0, 1, 98, 99};
        for (int i = 0; i < v.length; i++) {
            int asked = v[i];
            twins.told("enough for " + asked, Twins::one, x -> x.enough(0, 0, asked), want[i]);
            twins.told("enough for " + asked + " ON 100", Twins::one, x -> x.enough(0, 100, asked), want[i]);
        }
        twins.refused("100 would be enough", Twins::one, x -> x.enough(0, 0, 150), Due.NONE);
        twins.refused("100 would be enough ON 100", Twins::one, x -> x.enough(0, 100, 150), Due.NONE);
        twins.refused("BEYOND before NONE", Twins::one, x -> x.enough(0, -1, 150), Due.BEYOND);
        twins.refused("BEYOND before NONE", Twins::one, x -> x.enough(0, 101, 150), Due.BEYOND);
        twins.refused("BEYOND before NONE", Twins::one, x -> x.enough(0, 0, 201), Due.BEYOND);
        twins.told("99 to the top", () -> idle(101), x -> x.enough(0, 0, 200), 99);
        twins.refused("99 not to the top", () -> idle(100), x -> x.enough(0, 0, 200), Due.NONE);
        twins.told("at the top", () -> idle(200), x -> x.enough(0, 0, 200), 0);
    }

    private static void whom() {
        twins.range("whom(v, 0)", Twins::mixed, (x, v) -> x.whom(v, 0), 1, 99);
        twins.range("whom(1, n)", Twins::mixed, (x, v) -> x.whom(1, v), 0, 100);
        twins.range("whom(v, 0), alone", Twins::one, (x, v) -> x.whom(v, 0), 1, 99);
        twins.told("one alone", Twins::one, x -> x.whom(99, 100), 0);
        twins.refused("nobody is there", Twins::nobody, x -> x.whom(1, 0), Due.NONE);
        twins.refused("nobody is there, the most", Twins::nobody, x -> x.whom(99, 100), Due.NONE);
        twins.refused("v before nobody", Twins::nobody, x -> x.whom(0, 0), Due.BEYOND);
        twins.refused("v before nobody", Twins::nobody, x -> x.whom(100, 0), Due.BEYOND);
        twins.refused("n before nobody", Twins::nobody, x -> x.whom(1, -1), Due.BEYOND);
        twins.refused("n before nobody", Twins::nobody, x -> x.whom(1, 101), Due.BEYOND);
    }

    private static void whomOfSeveral() {
        twins.told("all as high", () -> idle(50, 50, 50), x -> x.whom(1, 0), 0);
        twins.told("the last is higher by 1", () -> idle(50, 50, 51), x -> x.whom(1, 0), 2);
        twins.told("both at the top then", () -> idle(101, 150, 200), x -> x.whom(99, 0), 0);
        twins.told("the first one 1 short", () -> idle(100, 150, 200), x -> x.whom(99, 0), 1);
        twins.told("the last of eight", () -> idle(0, 0, 0, 0, 0, 0, 0, 1), x -> x.whom(1, 0), 7);
        // the KIND ONE at 51 gives 3 away in a minute, at 50 by an idle one at 50 nothing
        twins.told("ON 0", BestEdgesTest::kindOneByIdle, x -> x.whom(1, 0), 0);
        twins.told("ON 1", BestEdgesTest::kindOneByIdle, x -> x.whom(1, 1), 1);
    }

    private static OwingSwings kindOneByIdle() {
        OwingSwings x = high(Due.with(3, 2), 50, 49);
        x.set(1, 2, 0);
        return x;
    }

    private static void debtor() {
        twins.range("debtor(n)", Twins::mixed, OwingSwings::debtor, 0, 400);
        twins.range("debtor(n), alone", Twins::one, OwingSwings::debtor, 0, 400);
        twins.told("one alone", Twins::one, x -> x.debtor(400), 0);
        twins.refused("nobody is there", Twins::nobody, x -> x.debtor(0), Due.NONE);
        twins.refused("nobody is there, the most", Twins::nobody, x -> x.debtor(400), Due.NONE);
        twins.refused("n before nobody", Twins::nobody, x -> x.debtor(-1), Due.BEYOND);
        twins.refused("n before nobody", Twins::nobody, x -> x.debtor(401), Due.BEYOND);
    }

    private static void debtorOfSeveral() {
        twins.told("all as much", Twins::eight, x -> x.debtor(0), 0);
        OwingSwings x = Twins.eight();
        for (int i = 0; i < 8; i++) {
            x.set(i, 3, -9999);
        }
        due.same("all the least", x.debtor(0), 0);
        x.set(7, 3, -9998);
        due.same("the last OWES most", x.debtor(0), 7);
        x.set(3, 3, -9998);
        due.same("of two the least", x.debtor(0), 3);
        x.set(5, 3, 9999);
        due.same("the most there is", x.debtor(0), 5);
        OwingSwings later = Due.with(2, 1, 3);
        due.same("who OWES most then, not now", later.debtor(1), 1);
    }

    private static void nobodyThere() {
        twins.refused("place(0, 1)", Twins::nobody, x -> x.place(0, 1), Due.BEYOND);
        twins.refused("kind(0, 1)", Twins::nobody, x -> x.kind(0, 1), Due.BEYOND);
        twins.refused("marbles(0, 1, 0)", Twins::nobody, x -> x.marbles(0, 1, 0), Due.BEYOND);
        twins.refused("enough(0, 0, 0)", Twins::nobody, x -> x.enough(0, 0, 0), Due.BEYOND);
    }
}
