import java.util.Arrays;

/**
 * "ON: n MINUTES go on with all as it is; nothing changes": each act that looks ahead leaves a ground in motion as it is,
 * and answers what is seen if the same is done on a twin by the other acts, and the minutes really go.
 */
final class OnTest {
    private static final Due due = new Due();
    private static final Twins twins = new Twins(due);
    private static final Twins.Maker[] GROUNDS = {OnTest::several, OnTest::fridayNight, OnTest::kindOnes, OnTest::allInAll, OnTest::atDusk};
    private static final int[] SOON = {1, 2, 9, 33, 100};

    public static void main(String[] args) {
        for (int i = 0; i < GROUNDS.length; i++) {
            String ground = "ground " + i + ": ";
            nothingChanges(ground, GROUNDS[i]);
            onAndOwes(ground, GROUNDS[i]);
            firstMinutes(ground, GROUNDS[i]);
            debtor(ground, GROUNDS[i]);
            place(ground, GROUNDS[i]);
            kind(ground, GROUNDS[i]);
            marbles(ground, GROUNDS[i]);
            enough(ground, GROUNDS[i]);
            whom(ground, GROUNDS[i]);
            night(ground, GROUNDS[i]);
            bookAndRead(ground, GROUNDS[i]);
        }
        due.end();
    }

    // ---- grounds

    private static OwingSwings high(OwingSwings x, int... heights) {
        for (int i = 0; i < heights.length; i++) {
            x.set(i, 1, heights[i]);
        }
        return x;
    }

    private static OwingSwings several() {
        OwingSwings x = high(Due.with(0, 1, 2, 3, 4, 5), 50, 20, 70, 190, 33, 59);
        x.set(2, 2, 40);
        x.minutes(3);
        return x;
    }

    /** Minute 40 of the day before SATURDAY: dusk comes, then the QUEEN's day. */
    private static OwingSwings fridayNight() {
        OwingSwings x = new OwingSwings();
        x.minutes(200);
        x.minutes(80);
        x.child(4);
        x.child(2);
        x.child(4);
        x.child(5);
        return high(x, 90, 60, 50, 40);
    }

    private static OwingSwings kindOnes() {
        OwingSwings x = high(Due.with(3, 2, 3), 120, 7, 60);
        x.set(1, 2, 90);
        x.dark(59);
        return x;
    }

    private static OwingSwings allInAll() {
        OwingSwings x = high(Due.with(2, 5, 1, 0, 3, 4, 2, 0), 0, 200, 61, 60, 199, 1, 100, 50);
        x.set(7, 3, 9990);
        x.set(1, 3, -9995);
        x.dark(25);
        x.minutes(11);
        return x;
    }

    private static OwingSwings atDusk() {
        OwingSwings x = high(Due.with(1, 0), 180, 20);
        x.minutes(49);
        x.dark(10);
        return x;
    }

    // ---- what is seen

    private static OwingSwings gone(OwingSwings x, int n) {
        int left = n;
        while (left > 0) {
            int now = Math.min(left, 200);
            x.minutes(now);
            left -= now;
        }
        return x;
    }

    private static int children(Twins.Maker maker) {
        return maker.make().count(0);
    }

    private static int apart(OwingSwings x) {
        int high = 0;
        int low = 200;
        for (int i = 0; i < x.count(0); i++) {
            high = Math.max(high, x.of(i, 1));
            low = Math.min(low, x.of(i, 1));
        }
        return high - low;
    }

    // ---- the sentences

    private static void nothingChanges(String ground, Twins.Maker maker) {
        int[] ahead = {0, 1, 60, 400};
        for (int n : ahead) {
            twins.looked(ground + "on HEIGHT " + n, maker, x -> x.on(1, n, 0));
            twins.looked(ground + "on MARBLES " + n, maker, x -> x.on(1, n, 1));
            twins.looked(ground + "owes " + n, maker, x -> x.owes(1, n));
            twins.looked(ground + "debtor " + n, maker, x -> x.debtor(n));
        }
        twins.looked(ground + "level", maker, OwingSwings::level);
        twins.looked(ground + "comes", maker, x -> x.comes(0, 200));
        twins.looked(ground + "dust", maker, x -> x.dust(0));
        for (int n : SOON) {
            twins.looked(ground + "place " + n, maker, x -> x.place(1, n));
            twins.looked(ground + "kind " + n, maker, x -> x.kind(1, n));
            twins.looked(ground + "marbles " + n, maker, x -> x.marbles(1, n, 150));
            twins.looked(ground + "night " + n, maker, x -> x.night(n));
            twins.looked(ground + "enough " + n, maker, x -> x.enough(1, n, 150));
            twins.looked(ground + "whom " + n, maker, x -> x.whom(30, n));
        }
        twins.looked(ground + "read", () -> booked(maker), x -> x.read(0, 0, 1));
    }

    private static OwingSwings booked(Twins.Maker maker) {
        OwingSwings x = maker.make();
        x.sheet(0, 64, 40);
        x.book(0, 0);
        return x;
    }

    private static void onAndOwes(String ground, Twins.Maker maker) {
        int[] ahead = {0, 1, 2, 17, 60, 199, 200, 201, 399, 400};
        for (int n : ahead) {
            OwingSwings went = gone(maker.make(), n);
            OwingSwings x = maker.make();
            for (int child = 0; child < x.count(0); child++) {
                String one = ground + child + " ON " + n;
                due.same(one + ": HEIGHT", x.on(child, n, 0), went.of(child, 1));
                due.same(one + ": MARBLES", x.on(child, n, 1), went.of(child, 2));
                due.same(one + ": OWES", x.owes(child, n), went.of(child, 3) - 100000);
            }
        }
    }

    /** Minute by minute; an object has 512 calls, so that each asks for one thing alone. */
    private static void firstMinutes(String ground, Twins.Maker maker) {
        due.same(ground + "level", maker.make().level(), firstMinute(maker, x -> x.now(5) == 1));
        for (int child = 0; child < children(maker); child++) {
            int one = child;
            due.same(ground + "dust of " + one, maker.make().dust(one), firstMinute(maker, x -> x.of(one, 1) == 0));
            int[] heights = {0, 30, 60, 61, 100, 150, 200};
            for (int v : heights) {
                due.same(ground + one + " comes to " + v, maker.make().comes(one, v), firstMinute(maker, x -> x.of(one, 1) >= v));
            }
        }
    }

    private interface Seen {
        boolean in(OwingSwings x);
    }

    private static int firstMinute(Twins.Maker maker, Seen seen) {
        OwingSwings x = maker.make();
        for (int n = 0; n <= 400; n++) {
            if (n % 200 == 199) {
                // a fresh one, before the calls of this one come to an end
                x = gone(maker.make(), n);
            }
            if (seen.in(x)) {
                return n;
            }
            x.minutes(1);
        }
        return Due.NONE;
    }

    private static void debtor(String ground, Twins.Maker maker) {
        int[] ahead = {0, 1, 45, 200, 400};
        for (int n : ahead) {
            OwingSwings went = gone(maker.make(), n);
            int best = 0;
            for (int child = 1; child < went.count(0); child++) {
                best = went.of(child, 3) > went.of(best, 3) ? child : best;
            }
            due.same(ground + "debtor ON " + n, maker.make().debtor(n), best);
        }
    }

    private static void place(String ground, Twins.Maker maker) {
        for (int n : SOON) {
            for (int child = 0; child < children(maker); child++) {
                int most = gone(maker.make(), n).of(child, 1);
                int best = Due.NONE;
                for (int other = 0; other < children(maker); other++) {
                    OwingSwings x = maker.make();
                    x.swap(child, other);
                    int height = gone(x, n).of(other, 1);
                    if (height > most) {
                        most = height;
                        best = other;
                    }
                }
                due.same(ground + "place of " + child + " ON " + n, maker.make().place(child, n), best);
            }
        }
    }

    private static void kind(String ground, Twins.Maker maker) {
        for (int n : SOON) {
            for (int child = 0; child < children(maker); child++) {
                int most = -1;
                int best = -1;
                for (int kind = 0; kind < 6; kind++) {
                    OwingSwings x = maker.make();
                    x.turn(child, kind);
                    int height = gone(x, n).of(child, 1);
                    if (height > most) {
                        most = height;
                        best = kind;
                    }
                }
                due.same(ground + "kind of " + child + " ON " + n, maker.make().kind(child, n), best);
            }
        }
    }

    private static void marbles(String ground, Twins.Maker maker) {
        for (int n : SOON) {
            for (int child = 0; child < children(maker); child++) {
                int[] heights = new int[100];
                for (int held = 0; held < 100; held++) {
                    OwingSwings x = maker.make();
                    x.set(child, 2, held);
                    heights[held] = gone(x, n).of(child, 1);
                }
                OwingSwings asked = maker.make();
                for (int v = 0; v <= 200; v++) {
                    due.same(ground + "marbles of " + child + " ON " + n + " for " + v, asked.marbles(child, n, v), firstAsHigh(heights, v));
                }
            }
        }
    }

    private static void enough(String ground, Twins.Maker maker) {
        int[] soon = {0, 1, 9, 100};
        for (int n : soon) {
            for (int child = 0; child < children(maker); child++) {
                int[] heights = new int[100];
                for (int by = 0; by < 100; by++) {
                    OwingSwings x = maker.make();
                    if (by > 0) {
                        x.push(child, by);
                    }
                    heights[by] = gone(x, n).of(child, 1);
                }
                OwingSwings asked = maker.make();
                for (int v = 0; v <= 200; v++) {
                    due.same(ground + "enough for " + child + " ON " + n + " to " + v, asked.enough(child, n, v), firstAsHigh(heights, v));
                }
            }
        }
    }

    private static int firstAsHigh(int[] heights, int v) {
        for (int i = 0; i < heights.length; i++) {
            if (heights[i] >= v) {
                return i;
            }
        }
        return Due.NONE;
    }

    private static void whom(String ground, Twins.Maker maker) {
        int[] soon = {0, 1, 9, 100};
        int[] pushes = {1, 10, 50, 99};
        for (int n : soon) {
            for (int v : pushes) {
                int most = -1;
                int best = -1;
                for (int child = 0; child < children(maker); child++) {
                    OwingSwings x = maker.make();
                    x.push(child, v);
                    int height = gone(x, n).of(child, 1);
                    if (height > most) {
                        most = height;
                        best = child;
                    }
                }
                due.same(ground + "whom " + v + " ON " + n, maker.make().whom(v, n), best);
            }
        }
    }

    private static void night(String ground, Twins.Maker maker) {
        for (int n = 1; n <= 120; n += 7) {
            int least = 201;
            int best = -1;
            for (int dark = 0; dark < 60; dark++) {
                OwingSwings x = maker.make();
                x.dark(dark);
                int apart = apart(gone(x, n));
                if (apart < least) {
                    least = apart;
                    best = dark;
                }
            }
            due.same(ground + "night ON " + n, maker.make().night(n), best);
        }
    }

    private static void bookAndRead(String ground, Twins.Maker maker) {
        int children = children(maker);
        for (int child = 0; child < children; child++) {
            OwingSwings x = maker.make();
            x.sheet(1, 16, 40);
            due.same(ground + "book of " + child, x.book(1, child), 40);
            OwingSwings goes = maker.make();
            for (int i = 0; i < 40; i++) {
                due.same(ground + "HEIGHT of " + child + " ON " + i, x.write(1, i, 0), goes.of(child, 1));
                goes.minutes(1);
            }
            read(ground, maker, child, (child + 1) % children);
            read(ground, maker, child, (child + children - 1) % children);
        }
    }

    /** Which of 36 books, each made by a pair of KINDS, is the same as the one of the KINDS that they are of. */
    private static void read(String ground, Twins.Maker maker, int child, int other) {
        int[] lengths = {1, 2, 5, 20};
        for (int length : lengths) {
            long[] was = bookOf(maker.make(), child, length);
            int pairs = 0;
            for (int own = 0; own < 6; own++) {
                for (int others = 0; others < 6; others++) {
                    OwingSwings x = maker.make();
                    x.turn(child, own);
                    x.turn(other, others);
                    pairs += Arrays.equals(bookOf(x, child, length), was) ? 1 : 0;
                }
            }
            OwingSwings x = maker.make();
            x.sheet(2, 64, length);
            x.book(2, child);
            due.same(ground + "read of " + child + " and " + other + " by " + length, x.read(2, child, other), pairs);
        }
    }

    private static long[] bookOf(OwingSwings x, int child, int length) {
        long[] book = new long[length];
        for (int i = 0; i < length; i++) {
            book[i] = x.of(child, 1);
            x.minutes(1);
        }
        return book;
    }
}
