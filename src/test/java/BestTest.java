/** Promises 17 to 23: place, kind, marbles, night, enough, whom, debtor. */
final class BestTest {
    private static final Due due = new Due();

    public static void main(String[] args) {
        place();
        kind();
        marbles();
        night();
        enough();
        whom();
        debtor();
        wrongOnes();
        due.end();
    }

    private static void place() {
        OwingSwings x = Due.with(0, 1, 0);
        due.same("place of 0", x.place(0, 1), Due.NONE);
        due.same("place of 1", x.place(1, 1), Due.NONE);
        due.same("place of 2: two are as good", x.place(2, 1), 0);
        due.same("nothing changed", x.of(2, 0), 0);
        due.same("no minute went", x.now(0), 0);
        due.same("place n 0", x.place(0, 0), Due.BEYOND);
        due.same("place n 101", x.place(0, 101), Due.BEYOND);
        due.same("place alone", Due.with(0).place(0, 100), Due.NONE);
    }

    private static void kind() {
        OwingSwings x = Due.with(0, 1, 0);
        due.same("kind of 0: of several the least", x.kind(0, 1), 0);
        due.same("kind of 2", x.kind(2, 1), 1);
        due.same("kind stays", x.of(2, 0), 0);
        due.same("kind alone", Due.with(5).kind(0, 100), 0);
        due.same("kind n 0", x.kind(0, 0), Due.BEYOND);
        due.same("kind n 101", x.kind(0, 101), Due.BEYOND);
    }

    private static void marbles() {
        OwingSwings x = Due.with(2, 3);
        due.same("marbles for none", x.marbles(0, 10, 50), 0);
        due.same("marbles for 57", x.marbles(0, 10, 57), 7);
        due.same("marbles for 60", x.marbles(0, 10, 60), 10);
        due.same("marbles for 61", x.marbles(0, 10, 61), Due.NONE);
        due.same("marbles stay", x.of(0, 2), 5);
        due.same("marbles n 0", x.marbles(0, 0, 1), Due.BEYOND);
        due.same("marbles n 101", x.marbles(0, 101, 1), Due.BEYOND);
        due.same("marbles v 201", x.marbles(0, 1, 201), Due.BEYOND);
        due.same("marbles v -1", x.marbles(0, 1, -1), Due.BEYOND);
        due.same("marbles v 0", x.marbles(0, 100, 0), 0);
        due.same("marbles n 1", x.marbles(0, 1, 51), 1);
        // the one minute of dusk among the 100 takes 1 back
        x.dark(59);
        x.set(0, 1, 100);
        x.set(1, 1, 100);
        due.same("all 99 of them", x.marbles(0, 100, 198), 99);
        due.same("not to be had for 99", x.marbles(0, 100, 199), Due.NONE);
    }

    private static void night() {
        OwingSwings x = Due.with(3, 3);
        due.same("night level: the least", x.night(1), 0);
        x.set(0, 1, 56);
        due.same("night(1)", x.night(1), 1);
        due.same("night(2)", x.night(2), 1);
        due.same("DARK stays", x.dark(50), 50);
        x.set(0, 1, 50);
        x.minutes(5);
        x.set(0, 1, 56);
        due.same("night(1) at 5", x.night(1), 6);
        x.set(0, 1, 50);
        x.minutes(53);
        x.set(0, 1, 56);
        due.same("night(1) at 58: the last DARK there is", x.night(1), 59);
        due.same("night(0)", x.night(0), Due.BEYOND);
        due.same("night(121)", x.night(121), Due.BEYOND);
        due.same("night(-1)", x.night(-1), Due.BEYOND);
        due.same("night of nobody", new OwingSwings().night(120), 0);
    }

    private static void enough() {
        OwingSwings x = Due.with(0);
        due.same("enough as it is", x.enough(0, 0, 50), 0);
        due.same("enough 0", x.enough(0, 0, 0), 0);
        due.same("enough 51", x.enough(0, 0, 51), 1);
        due.same("enough 149", x.enough(0, 0, 149), 99);
        due.same("enough 150", x.enough(0, 0, 150), Due.NONE);
        due.same("enough later", x.enough(0, 100, 60), 10);
        due.same("no push", x.of(0, 1), 50);
        due.same("enough n -1", x.enough(0, -1, 0), Due.BEYOND);
        due.same("enough n 101", x.enough(0, 101, 0), Due.BEYOND);
        due.same("enough v 201", x.enough(0, 0, 201), Due.BEYOND);
        due.same("enough v -1", x.enough(0, 0, -1), Due.BEYOND);
        x.set(0, 1, 150);
        due.same("enough 200", x.enough(0, 0, 200), 50);
    }

    private static void whom() {
        OwingSwings x = Due.with(0, 0, 0);
        x.set(1, 1, 70);
        x.set(2, 1, 70);
        due.same("whom: the least of two", x.whom(10, 0), 1);
        x.set(0, 1, 150);
        x.set(1, 1, 190);
        x.set(2, 1, 101);
        due.same("whom: all at 200", x.whom(99, 0), 0);
        due.same("whom: all but one", x.whom(49, 0), 1);
        due.same("no push", x.of(0, 1), 150);
        due.same("whom v 0", x.whom(0, 0), Due.BEYOND);
        due.same("whom v 100", x.whom(100, 0), Due.BEYOND);
        due.same("whom n -1", x.whom(1, -1), Due.BEYOND);
        due.same("whom n 101", x.whom(1, 101), Due.BEYOND);
        due.same("whom of nobody", new OwingSwings().whom(1, 0), Due.NONE);
        due.same("whom BEYOND before NONE", new OwingSwings().whom(0, 0), Due.BEYOND);
    }

    private static void debtor() {
        OwingSwings x = Due.with(0, 1);
        due.same("debtor: the least", x.debtor(0), 0);
        due.same("debtor ON 1", x.debtor(1), 1);
        x.set(0, 3, -5);
        x.set(1, 3, -4);
        due.same("debtor below 0", x.debtor(0), 1);
        due.same("debtor(-1)", x.debtor(-1), Due.BEYOND);
        due.same("debtor(401)", x.debtor(401), Due.BEYOND);
        due.same("debtor of nobody", new OwingSwings().debtor(0), Due.NONE);
        due.same("debtor BEYOND before NONE", new OwingSwings().debtor(401), Due.BEYOND);
    }

    private static void wrongOnes() {
        OwingSwings x = Due.with(0, 0);
        int[] wrong = {Integer.MIN_VALUE, -1, 2, Integer.MAX_VALUE};
        for (int child : wrong) {
            due.same("place of a wrong one", x.place(child, 1), Due.BEYOND);
            due.same("kind of a wrong one", x.kind(child, 1), Due.BEYOND);
            due.same("marbles of a wrong one", x.marbles(child, 1, 1), Due.BEYOND);
            due.same("enough of a wrong one", x.enough(child, 1, 1), Due.BEYOND);
        }
    }
}
