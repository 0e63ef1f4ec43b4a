/** The section 'Terms': each sentence that names a boundary. */
final class TermsEdgesTest {
    private static final Due due = new Due();
    private static final int CHILD = 0;
    private static final int BIG = 1;
    private static final int SMALL = 2;
    private static final int KIND_ONE = 3;
    private static final int QUEEN = 4;
    private static final int BABY = 5;

    public static void main(String[] args) {
        findings();
        findingsInLongs();
        minuteAtFirstAndAtMost();
        minuteOfTheDay();
        duskFromDarkOn();
        saturdays();
        saturdayLate();
        childrenAtMostEight();
        atFirst();
        nextOfTheLast();
        nextOfOneAlone();
        wants();
        wantsOnSaturday();
        pays();
        yields();
        yieldsOnSaturday();
        havesWhatTheNextHas();
        havesWhatItLacks();
        havesWhatIsYielded();
        havesOnSaturday();
        havesForMarbles();
        marblesThereAtMost();
        nothingHadNothingPaid();
        gives();
        byNumbers();
        owesHeldWhenHaving();
        owesHeldWhenGiving();
        owesHeldAtDusk();
        duskTwoApart();
        duskOfSeveral();
        duskMinuteByMinute();
        push();
        level();
        due.end();
    }

    private static void heights(String when, OwingSwings x, int... want) {
        whats(when + ": HEIGHT", x, 1, want);
    }

    private static void marbles(String when, OwingSwings x, int... want) {
        whats(when + ": MARBLES", x, 2, want);
    }

    private static void owes(String when, OwingSwings x, int... want) {
        int[] moved = want.clone();
        for (int i = 0; i < moved.length; i++) {
            moved[i] += 100000;
        }
        whats(when + ": OWES", x, 3, moved);
    }

    private static void whats(String when, OwingSwings x, int what, int... want) {
        for (int i = 0; i < want.length; i++) {
            due.same(when + " of " + i, x.of(i, what), want[i]);
        }
    }

    private static OwingSwings high(OwingSwings x, int... heights) {
        for (int i = 0; i < heights.length; i++) {
            x.set(i, 1, heights[i]);
        }
        return x;
    }

    /** A SMALL one without MARBLES neither has nor gives of itself: it is there to be had from. */
    private static OwingSwings withIdle(int kind, int height, int idleHeight) {
        OwingSwings x = high(Due.with(kind, SMALL), height, idleHeight);
        x.set(1, 2, 0);
        return x;
    }

    // "FINDINGS are answers below -1000000000: -1000000001 BEYOND .. -1000000007 SIZE (in longs, too)"

    private static void findings() {
        OwingSwings x = Twins.eight();
        due.same("BEYOND", x.now(8), -1000000001);
        due.same("FULL", x.child(0), -1000000002);
        due.same("KIND", x.as(0, 1), -1000000003);
        due.same("NONE", x.undo(), -1000000004);
        due.same("MISSING", x.lays(0), -1000000006);
        due.same("SIZE", x.sheet(0, 0, -1), -1000000007);
        OwingSwings late = Twins.late();
        due.same("STATE", late.minutes(200), -1000000005);
    }

    private static void findingsInLongs() {
        OwingSwings x = new OwingSwings();
        due.same("BEYOND in longs", x.write(4, 0, 0), -1000000001L);
        due.same("MISSING in longs", x.write(0, 0, 0), -1000000006L);
    }

    // "MINUTE: 0 at first (99999 at most); of the day: its rest by 60."

    private static void minuteAtFirstAndAtMost() {
        due.same("MINUTE at first", new OwingSwings().now(0), 0);
        OwingSwings x = Twins.late();
        due.same("200 beyond 99800", x.minutes(200), Due.STATE);
        due.same("199 to 99999", x.minutes(199), -1);
        due.same("MINUTE at most", x.now(0), 99999);
        due.same("of the day", x.now(1), 39);
        due.same("one beyond 99999", x.minutes(1), Due.STATE);
        due.same("still 99999", x.now(0), 99999);
    }

    private static void minuteOfTheDay() {
        OwingSwings x = new OwingSwings();
        int[] want = {0, 1, 58, 59, 0, 1};
        int[] gone = {0, 1, 57, 1, 1, 1};
        for (int i = 0; i < want.length; i++) {
            if (gone[i] > 0) {
                x.minutes(gone[i]);
            }
            due.same("minute of the day " + i, x.now(1), want[i]);
        }
        due.same("MINUTE by then", x.now(0), 61);
    }

    // "DUSK: from minute DARK (0 to 59; 50 at first) of the day on."

    private static void duskFromDarkOn() {
        int[] darks = {0, 1, 50, 58, 59};
        for (int dark : darks) {
            OwingSwings x = new OwingSwings();
            x.dark(dark);
            for (int minute = 0; minute < 121; minute++) {
                due.same("DUSK with DARK " + dark + " at " + minute, x.now(2), minute % 60 >= dark ? 1 : 0);
                x.minutes(1);
            }
        }
        due.same("DARK at first", new OwingSwings().dark(0), 50);
    }

    // "SATURDAY: days (MINUTE by 60) whose rest by 7 is 5."

    private static void saturdays() {
        OwingSwings x = new OwingSwings();
        for (int day = 0; day < 20; day++) {
            int is = day == 5 || day == 12 || day == 19 ? 1 : 0;
            due.same("SATURDAY at the start of day " + day, x.now(3), is);
            x.minutes(59);
            due.same("SATURDAY at the end of day " + day, x.now(3), is);
            x.minutes(1);
        }
    }

    private static void saturdayLate() {
        OwingSwings x = Twins.late();
        x.minutes(39);
        due.same("99839", x.now(3), 0);
        x.minutes(1);
        due.same("99840, day 1664", x.now(3), 1);
        x.minutes(59);
        due.same("99899", x.now(3), 1);
        x.minutes(1);
        due.same("99900", x.now(3), 0);
    }

    // "CHILDREN 0, 1, .. (at most 8)"

    private static void childrenAtMostEight() {
        OwingSwings x = new OwingSwings();
        for (int i = 0; i < 8; i++) {
            due.same("number of a child", x.child(BABY), i);
        }
        due.same("a 9th", x.child(BABY), Due.FULL);
        due.same("eight", x.count(0), 8);
        due.same("no child 8", x.of(8, 0), Due.BEYOND);
        due.same("child 7", x.of(7, 0), BABY);
    }

    // "HEIGHT (0 to 200; 50 at first), MARBLES (0 to 99; 5 at first), OWES (..; 0 at first)"

    private static void atFirst() {
        for (int kind = 0; kind < 6; kind++) {
            OwingSwings x = Due.with(kind, kind);
            heights("at first", x, 50, 50);
            marbles("at first", x, 5, 5);
            owes("at first", x, 0, 0);
        }
    }

    // "THE NEXT one of the last is child 0; of one alone: nobody."

    private static void nextOfTheLast() {
        OwingSwings x = Due.with(SMALL, SMALL, SMALL, SMALL, SMALL, SMALL, SMALL, CHILD);
        for (int i = 0; i < 7; i++) {
            x.set(i, 2, 0);
        }
        due.same("the last is highest then", x.minutes(1), 7);
        heights("the last one has from child 0", x, 48, 50, 50, 50, 50, 50, 50, 52);
        owes("the last one has from child 0", x, -2, 0, 0, 0, 0, 0, 0, 2);
        OwingSwings y = high(Due.with(SMALL, KIND_ONE), 49, 50);
        y.set(0, 2, 0);
        due.same("the last one's next is lower", y.of(1, 4), 97);
        y.set(0, 1, 50);
        due.same("the last one's next is not", y.of(1, 4), 100);
    }

    private static void nextOfOneAlone() {
        for (int kind = 0; kind < 6; kind++) {
            OwingSwings x = Due.with(kind);
            due.same("alone it WANTS nothing", x.of(0, 4), 100);
            x.minutes(200);
            x.minutes(101);
            due.same("alone on a SATURDAY too", x.of(0, 4), 100);
            x.minutes(59);
            heights("alone", x, 50);
            marbles("alone", x, 5);
            owes("alone", x, 0);
        }
    }

    // "WANTS .. CHILD: 2. BIG: as CHILD, and 3. SMALL: as CHILD, less 1. KIND ONE: -3, if the next one is lower,
    // else 0. QUEEN: as BIG, twice that on a SATURDAY. BABY: as SMALL, but 0, if its HEIGHT is above 60."

    private static void wants() {
        int[] want = {102, 105, 101, 100, 105, 101};
        for (int kind = 0; kind < 6; kind++) {
            due.same("WANTS of " + kind, Due.with(kind, CHILD).of(0, 4), want[kind]);
        }
        due.same("KIND ONE, the next 1 lower", high(Due.with(KIND_ONE, CHILD), 50, 49).of(0, 4), 97);
        due.same("KIND ONE, the next as high", high(Due.with(KIND_ONE, CHILD), 50, 50).of(0, 4), 100);
        due.same("KIND ONE, the next higher", high(Due.with(KIND_ONE, CHILD), 50, 51).of(0, 4), 100);
        due.same("KIND ONE at 1", high(Due.with(KIND_ONE, CHILD), 1, 0).of(0, 4), 97);
        due.same("KIND ONE at 0", high(Due.with(KIND_ONE, CHILD), 0, 0).of(0, 4), 100);
        due.same("BABY at 0", high(Due.with(BABY, CHILD), 0).of(0, 4), 101);
        due.same("BABY at 60", high(Due.with(BABY, CHILD), 60).of(0, 4), 101);
        due.same("BABY at 61", high(Due.with(BABY, CHILD), 61).of(0, 4), 100);
        due.same("BABY at 200", high(Due.with(BABY, CHILD), 200).of(0, 4), 100);
        due.same("SMALL above 60", high(Due.with(SMALL, CHILD), 61).of(0, 4), 101);
        due.same("SMALL without MARBLES", withIdle(SMALL, 50, 50).of(1, 4), 101);
    }

    private static void wantsOnSaturday() {
        int[] want = {102, 105, 101, 100, 110, 101};
        OwingSwings x = Twins.saturday();
        for (int kind = 0; kind < 6; kind++) {
            x.child(kind);
        }
        for (int kind = 0; kind < 6; kind++) {
            due.same("WANTS on a SATURDAY of " + kind, x.of(kind, 4), want[kind]);
        }
    }

    // "PAYS .. CHILD: 0. BIG: as CHILD. SMALL: 1. KIND ONE: as CHILD. QUEEN: as BIG. BABY: as SMALL, less 1."

    private static void pays() {
        int[] want = {0, 0, 1, 0, 0, 0};
        for (int kind = 0; kind < 6; kind++) {
            due.same("PAYS of " + kind, Due.with(CHILD, kind).of(1, 5), want[kind]);
        }
    }

    // "YIELDS .. CHILD: 4. BIG: half of as CHILD. SMALL: as CHILD, and 4. KIND ONE: its HEIGHT.
    // QUEEN: 0 on a SATURDAY, else as BIG. BABY: as SMALL."

    private static void yields() {
        int[] want = {4, 2, 8, 50, 2, 8};
        for (int kind = 0; kind < 6; kind++) {
            due.same("YIELDS of " + kind, Due.with(CHILD, kind).of(1, 6), want[kind]);
            int[] ends = {0, 200};
            for (int end : ends) {
                int is = kind == KIND_ONE ? end : want[kind];
                due.same("YIELDS of " + kind + " at " + end, high(Due.with(kind), end).of(0, 6), is);
            }
        }
    }

    private static void yieldsOnSaturday() {
        int[] want = {4, 2, 8, 50, 0, 8};
        OwingSwings x = Twins.saturday();
        for (int kind = 0; kind < 6; kind++) {
            x.child(kind);
            due.same("YIELDS on a SATURDAY of " + kind, x.of(kind, 6), want[kind]);
        }
    }

    // "TO HAVE n FROM the next one: .. (n at most what that one has, and what it itself lacks to 200)"

    private static void havesWhatTheNextHas() {
        int[] theirs = {6, 5, 4, 1, 0};
        int[] had = {5, 5, 4, 1, 0};
        for (int i = 0; i < theirs.length; i++) {
            OwingSwings x = withIdle(BIG, 50, theirs[i]);
            x.minutes(1);
            heights("of one that has " + theirs[i], x, 50 + had[i], theirs[i] - had[i]);
            owes("of one that has " + theirs[i], x, had[i], -had[i]);
        }
    }

    private static void havesWhatItLacks() {
        int[] own = {194, 195, 196, 199, 200};
        int[] had = {5, 5, 4, 1, 0};
        for (int i = 0; i < own.length; i++) {
            OwingSwings x = withIdle(BIG, own[i], 50);
            x.minutes(1);
            heights("at " + own[i], x, own[i] + had[i], 50 - had[i]);
            owes("at " + own[i], x, had[i], -had[i]);
        }
    }

    // "HAS so much FROM the next one, but no more than that one YIELDS"; the third one stands at 0, so that the
    // second has nothing of its own accord

    private static void havesWhatIsYielded() {
        int[] kinds = {CHILD, BIG, SMALL, QUEEN, BABY};
        int[] had = {4, 2, 5, 2, 5};
        for (int i = 0; i < kinds.length; i++) {
            OwingSwings x = high(Due.with(BIG, kinds[i], SMALL), 50, 50, 0);
            x.set(2, 2, 0);
            x.minutes(1);
            heights("BIG by a " + kinds[i], x, 50 + had[i], 50 - had[i], 0);
        }
        int[] theirs = {0, 1, 5};
        for (int height : theirs) {
            OwingSwings x = high(Due.with(BIG, KIND_ONE, SMALL), 50, height, 0);
            x.set(2, 2, 0);
            x.minutes(1);
            heights("BIG by a KIND ONE at " + height, x, 50 + height, 0, 0);
        }
    }

    private static OwingSwings onSaturday(int... kinds) {
        OwingSwings x = Twins.saturday();
        for (int kind : kinds) {
            x.child(kind);
        }
        x.set(kinds.length - 1, 2, 0);
        return high(x, 50, 50, 0);
    }

    private static void havesOnSaturday() {
        int[] kinds = {CHILD, BIG, SMALL, QUEEN, BABY};
        int[] had = {4, 2, 8, 0, 8};
        for (int i = 0; i < kinds.length; i++) {
            OwingSwings x = onSaturday(QUEEN, kinds[i], SMALL);
            x.minutes(1);
            heights("QUEEN on a SATURDAY by a " + kinds[i], x, 50 + had[i], 50 - had[i], 0);
        }
        int[] theirs = {9, 10};
        for (int height : theirs) {
            OwingSwings x = high(onSaturday(QUEEN, KIND_ONE, SMALL), 50, height);
            x.minutes(1);
            heights("QUEEN by a KIND ONE at " + height, x, 50 + height, 0, 0);
        }
        OwingSwings more = high(onSaturday(QUEEN, KIND_ONE, SMALL), 50, 14, 4);
        more.minutes(1);
        heights("QUEEN has 10, no more", more, 60, 4, 4);
    }

    // "one that WANTS above 0, and has as many MARBLES as it PAYS"

    private static void havesForMarbles() {
        int[] held = {0, 1, 2, 99};
        int[] had = {0, 1, 1, 1};
        for (int i = 0; i < held.length; i++) {
            OwingSwings x = withIdle(SMALL, 50, 0);
            x.turn(1, KIND_ONE);
            x.set(1, 1, 50);
            x.set(0, 2, held[i]);
            x.minutes(1);
            heights("SMALL with " + held[i], x, 50 + had[i], 50 - had[i]);
            marbles("SMALL with " + held[i], x, held[i] - had[i], had[i]);
        }
        int[] others = {CHILD, BIG, QUEEN, BABY};
        int[] theirs = {2, 5, 5, 1};
        for (int i = 0; i < others.length; i++) {
            OwingSwings x = withIdle(others[i], 50, 50);
            x.set(0, 2, 0);
            x.minutes(1);
            heights("a " + others[i] + " without MARBLES", x, 50 + theirs[i], 50 - theirs[i]);
            marbles("a " + others[i] + " pays nothing", x, 0, 0);
        }
    }

    // "if it has any, it PAYS that one (99 MARBLES at most there)"

    private static void marblesThereAtMost() {
        int[] there = {97, 98, 99};
        for (int held : there) {
            OwingSwings x = Due.with(SMALL, KIND_ONE);
            x.set(1, 2, held);
            x.minutes(1);
            heights("had in any case", x, 51, 49);
            marbles("with " + held + " there", x, 4, Math.min(99, held + 1));
        }
    }

    private static void nothingHadNothingPaid() {
        OwingSwings dust = high(Due.with(SMALL, KIND_ONE), 50, 0);
        dust.minutes(1);
        marbles("nothing there", dust, 5, 5);
        OwingSwings top = high(Due.with(SMALL, KIND_ONE), 200, 50);
        top.minutes(1);
        marbles("nothing lacks", top, 5, 5);
        OwingSwings queen = onSaturday(SMALL, QUEEN, SMALL);
        queen.minutes(1);
        marbles("nothing is yielded", queen, 5, 5, 0);
        OwingSwings dusk = Due.with(SMALL, KIND_ONE);
        dusk.dark(0);
        dusk.set(1, 1, 60);
        dusk.minutes(1);
        heights("by dusk", dusk, 51, 59);
        marbles("nothing is paid at dusk", dusk, 5, 5);
    }

    // "TO GIVE n: the other way round (n at most what it has, and what that one lacks to 200)"

    private static void gives() {
        int[] own = {50, 50, 4, 3, 2, 1, 200, 200, 200, 198};
        int[] theirs = {49, 50, 0, 0, 1, 0, 196, 198, 199, 197};
        int[] gave = {3, 0, 3, 3, 2, 1, 3, 2, 1, 3};
        for (int i = 0; i < own.length; i++) {
            OwingSwings x = withIdle(KIND_ONE, own[i], theirs[i]);
            x.set(0, 2, 0);
            x.minutes(1);
            String when = "KIND ONE at " + own[i] + " by " + theirs[i];
            heights(when, x, own[i] - gave[i], theirs[i] + gave[i]);
            owes(when, x, -gave[i], gave[i]);
            marbles(when, x, 0, 0);
        }
        OwingSwings content = withIdle(BABY, 61, 50);
        content.minutes(1);
        heights("one that WANTS 0 neither has nor gives", content, 61, 50);
        OwingSwings near = withIdle(BABY, 60, 50);
        near.minutes(2);
        heights("BABY has till it is above 60", near, 61, 49);
    }

    // "CHILDREN by numbers": what one has had, the one before it in the ring may have of it in the same minute

    private static void byNumbers() {
        OwingSwings x = high(Due.with(CHILD, CHILD, CHILD), 0, 0, 4);
        x.minutes(1);
        heights("0 finds none, 1 has of 2, 2 has none of 0", x, 0, 2, 2);
        OwingSwings y = high(Due.with(CHILD, CHILD, CHILD), 4, 0, 0);
        y.minutes(1);
        heights("2 has of 0 after 0 and 1 found none", y, 2, 0, 2);
        OwingSwings z = high(Due.with(CHILD, CHILD, CHILD), 0, 4, 0);
        z.minutes(1);
        heights("0 has of 1, and 2 of 0", z, 0, 2, 2);
    }

    // "OWES is so much more, that one's so much less (held)", "-9999 to 9999"

    private static void owesHeldWhenHaving() {
        int[] own = {9993, 9994, 9995, 9999};
        int[] theirs = {-9993, -9994, -9995, -9999};
        for (int i = 0; i < own.length; i++) {
            OwingSwings x = withIdle(BIG, 50, 50);
            x.set(0, 3, own[i]);
            x.set(1, 3, theirs[i]);
            x.minutes(1);
            heights("had in any case", x, 55, 45);
            owes("held, from " + own[i], x, Math.min(9999, own[i] + 5), Math.max(-9999, theirs[i] - 5));
        }
        OwingSwings x = withIdle(BIG, 50, 50);
        x.set(0, 3, 9999);
        x.minutes(1);
        owes("each held for itself", x, 9999, -5);
        OwingSwings y = withIdle(BIG, 50, 50);
        y.set(1, 3, -9999);
        y.minutes(1);
        owes("each held for itself, the other way", y, 5, -9999);
    }

    private static void owesHeldWhenGiving() {
        int[] own = {-9995, -9996, -9997, -9999};
        int[] theirs = {9995, 9996, 9997, 9999};
        for (int i = 0; i < own.length; i++) {
            OwingSwings x = withIdle(KIND_ONE, 50, 40);
            x.set(0, 3, own[i]);
            x.set(1, 3, theirs[i]);
            x.minutes(1);
            heights("given in any case", x, 47, 43);
            owes("held, from " + own[i], x, Math.max(-9999, own[i] - 3), Math.min(9999, theirs[i] + 3));
        }
    }

    private static void owesHeldAtDusk() {
        int[] low = {9998, 9999};
        for (int i = 0; i < low.length; i++) {
            OwingSwings x = high(Due.with(CHILD, CHILD), 40, 60);
            x.dark(0);
            x.set(0, 3, low[i]);
            x.set(1, 3, -low[i]);
            x.minutes(1);
            heights("it goes in any case", x, 41, 59);
            owes("held, from " + low[i], x, 9999, -9999);
        }
    }

    // "If it is DUSK: .. goes 1 HEIGHT (..), if they are 2 or more apart."

    private static void duskTwoApart() {
        int[][] before = {{50, 50}, {50, 51}, {51, 50}, {50, 52}, {52, 50}, {0, 200}, {200, 0}, {199, 200}, {0, 1}, {0, 2}};
        int[][] after = {{50, 50}, {50, 51}, {51, 50}, {51, 51}, {51, 51}, {1, 199}, {199, 1}, {199, 200}, {0, 1}, {1, 1}};
        for (int i = 0; i < before.length; i++) {
            OwingSwings x = high(Due.with(QUEEN, BIG), before[i]);
            x.dark(0);
            x.minutes(1);
            String when = "dusk with " + before[i][0] + " and " + before[i][1];
            heights(when, x, after[i]);
            owes(when, x, after[i][0] - before[i][0], after[i][1] - before[i][1]);
            due.same(when + ": MINUTE is 1 more", x.now(0), 1);
        }
    }

    // "from the highest (of several the least) to the lowest (of several the least)"

    private static void duskOfSeveral() {
        OwingSwings x = high(Due.with(CHILD, CHILD, CHILD, CHILD), 70, 30, 30, 70);
        x.dark(0);
        x.minutes(1);
        heights("the least of both", x, 69, 31, 30, 70);
        x.minutes(1);
        heights("then the other ones", x, 69, 31, 31, 69);
        OwingSwings last = high(Due.with(0, 0, 0, 0, 0, 0, 0, 0), 40, 50, 50, 50, 50, 50, 50, 60);
        last.dark(0);
        last.minutes(1);
        heights("from the last to the first", last, 41, 50, 50, 50, 50, 50, 50, 59);
    }

    private static void duskMinuteByMinute() {
        OwingSwings x = withIdle(BIG, 50, 150);
        x.dark(1);
        x.minutes(1);
        heights("minute 0 is none of DUSK", x, 55, 145);
        x.minutes(1);
        heights("minute 1 is", x, 56, 144);
        OwingSwings y = withIdle(BIG, 50, 150);
        y.dark(59);
        y.minutes(2);
        y.set(0, 1, 50);
        y.set(1, 1, 50);
        y.set(1, 2, 0);
        y.minutes(57);
        heights("minute 58 is none of DUSK", y, 100, 0);
        y.minutes(1);
        heights("minute 59 is", y, 99, 1);
        y.minutes(1);
        heights("and minute 60 is none", y, 100, 0);
    }

    // "A PUSH: one's HEIGHT is v more (200 at most; nobody has it FROM anybody)."

    private static void push() {
        int[] from = {0, 100, 101, 102, 199, 200};
        int[] to = {99, 199, 200, 200, 200, 200};
        for (int i = 0; i < from.length; i++) {
            OwingSwings x = high(Due.with(CHILD, CHILD, CHILD), 50, from[i], 50);
            due.same("PUSH at " + from[i], x.push(1, 99), to[i]);
            heights("PUSH at " + from[i], x, 50, to[i], 50);
            owes("PUSH at " + from[i], x, 0, 0, 0);
        }
    }

    // "LEVEL: no two HEIGHTS are 2 or more apart."

    private static void level() {
        due.same("nobody", new OwingSwings().now(5), 1);
        due.same("one", high(Due.with(CHILD), 200).now(5), 1);
        due.same("as high", high(Due.with(CHILD, CHILD), 200, 200).now(5), 1);
        due.same("1 apart", high(Due.with(CHILD, CHILD), 200, 199).now(5), 1);
        due.same("2 apart", high(Due.with(CHILD, CHILD), 200, 198).now(5), 0);
        due.same("0 and 1", high(Due.with(CHILD, CHILD), 0, 1).now(5), 1);
        due.same("0 and 2", high(Due.with(CHILD, CHILD), 0, 2).now(5), 0);
        due.same("each 1 from the next, 2 in all", high(Due.with(CHILD, CHILD, CHILD), 49, 50, 51).now(5), 0);
        due.same("the last of eight", high(Due.with(0, 0, 0, 0, 0, 0, 0, 0), 50, 50, 50, 50, 50, 50, 50, 52).now(5), 0);
    }
}
