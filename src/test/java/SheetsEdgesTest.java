/** Promises 27 to 32, at their edges: sheet, write, copy, lays, book, read. Twins.mixed() has 2, 3 and 0 numbers and a MISSING sheet. */
final class SheetsEdgesTest {
    private static final Due due = new Due();
    private static final Twins twins = new Twins(due);
    private static final int[] BITS = {8, 16, 64};
    private static final int[] NO_SHEETS = {Integer.MIN_VALUE, -1, 4, Integer.MAX_VALUE};

    public static void main(String[] args) {
        sheet();
        sheetFindings();
        sheetIsAllZeros();
        write();
        writeLowestBits();
        copy();
        copyFindings();
        copyBoundaries();
        copyAsTheyAllWere();
        lays();
        laysHeights();
        laysAsManyAsThereAre();
        book();
        bookIsOn();
        bookInFewBits();
        read();
        readPairs();
        due.end();
    }

    private static OwingSwings with(int bits, int n) {
        OwingSwings x = Due.with(1, 0);
        x.sheet(0, bits, n);
        return x;
    }

    // "A sheet has n numbers, all 0, of 8, 16 or 64 bits; bits 0: it is MISSING: n (0 if it is MISSING)."

    private static void sheet() {
        twins.range("sheet(s, 8, 1)", Twins::mixed, (x, v) -> x.sheet(v, 8, 1), 0, 3);
        twins.range("sheet(s, 0, 0)", Twins::mixed, (x, v) -> x.sheet(v, 0, 0), 0, 3);
        int[] counts = {0, 1, 39, 40};
        for (int n : counts) {
            for (int bits : BITS) {
                OwingSwings x = with(bits, 3);
                due.same("sheet of " + n, x.sheet(0, bits, n), n);
                due.same("no number behind the last", x.write(0, n, 0), Due.BEYOND);
                if (n > 0) {
                    due.same("the last number", x.write(0, n - 1, 1), 0);
                }
            }
            OwingSwings x = with(64, 3);
            due.same("MISSING again, with " + n, x.sheet(0, 0, n), 0);
            due.same("it is", x.write(0, 0, 0), Due.MISSING);
            due.same("and again", x.sheet(0, 0, n), 0);
        }
    }

    // "BEYOND: no such sheet, other bits. SIZE: n is below 0 (also with bits 0). BEYOND: n is above 40 (also with bits 0)."

    private static void sheetFindings() {
        int[] otherBits = {Integer.MIN_VALUE, -64, -8, -1, 1, 7, 9, 15, 17, 24, 32, 63, 65, 128, Integer.MAX_VALUE};
        for (int bits : otherBits) {
            twins.refused("bits " + bits, Twins::mixed, x -> x.sheet(0, bits, 1), Due.BEYOND);
            twins.refused("bits " + bits + " before SIZE", Twins::mixed, x -> x.sheet(0, bits, -1), Due.BEYOND);
        }
        for (int s : NO_SHEETS) {
            twins.refused("no sheet " + s + " before SIZE", Twins::mixed, x -> x.sheet(s, 8, -1), Due.BEYOND);
            twins.refused("no sheet " + s + ", other bits", Twins::mixed, x -> x.sheet(s, 7, 41), Due.BEYOND);
        }
        int[] allBits = {0, 8, 16, 64};
        for (int bits : allBits) {
            twins.refused("-1 of " + bits, Twins::mixed, x -> x.sheet(0, bits, -1), Due.SIZE);
            twins.refused("the least of " + bits, Twins::mixed, x -> x.sheet(1, bits, Integer.MIN_VALUE), Due.SIZE);
            twins.refused("41 of " + bits, Twins::mixed, x -> x.sheet(2, bits, 41), Due.BEYOND);
            twins.refused("the greatest of " + bits, Twins::mixed, x -> x.sheet(3, bits, Integer.MAX_VALUE), Due.BEYOND);
        }
    }

    private static void sheetIsAllZeros() {
        OwingSwings x = with(64, 40);
        for (int i = 0; i < 40; i++) {
            x.write(0, i, -1);
        }
        x.sheet(1, 8, 1);
        x.write(1, 0, 9);
        x.sheet(0, 64, 1);
        x.sheet(0, 64, 40);
        for (int i = 0; i < 40; i++) {
            due.same("number " + i, x.write(0, i, -1), 0);
        }
        x.sheet(0, 0, 0);
        x.sheet(0, 16, 40);
        for (int i = 0; i < 40; i++) {
            due.same("number " + i + " after MISSING", x.write(0, i, 0), 0);
        }
        due.same("the other sheet stays", x.write(1, 0, 0), 9);
    }

    // "Number i of a sheet becomes v (its lowest bits): what it was. BEYOND: no such sheet. MISSING. BEYOND: no such number."

    private static void write() {
        twins.range("write(0, i, 1)", Twins::mixed, (x, v) -> x.write(0, v, 1), 0, 1);
        twins.range("write(1, i, 1)", Twins::mixed, (x, v) -> x.write(1, v, 1), 0, 2);
        twins.range("write(0, i, 1) of 40", () -> with(64, 40), (x, v) -> x.write(0, v, 1), 0, 39);
        twins.refused("a sheet of no numbers", Twins::mixed, x -> x.write(2, 0, 1), Due.BEYOND);
        int[] noNumbers = {Integer.MIN_VALUE, -1, 0, 40, Integer.MAX_VALUE};
        for (int i : noNumbers) {
            twins.refused("MISSING before BEYOND", Twins::mixed, x -> x.write(3, i, 1), Due.MISSING);
            for (int s : NO_SHEETS) {
                twins.refused("no sheet " + s, Twins::mixed, x -> x.write(s, i, 1), Due.BEYOND);
            }
        }
        twins.told("the same again", Twins::mixed, x -> x.write(0, 1, 21), 21);
    }

    private static void writeLowestBits() {
        long[][] wrote = {
            {0, 1, -1, 127, 128, 129, 255, 256, 257, -127, -128, -129, -256, Long.MAX_VALUE, Long.MIN_VALUE, 0x7f80L, 0xffffff00L},
            {0, 1, -1, 32767, 32768, 65535, 65536, 65537, -32768, -32769, Long.MAX_VALUE, Long.MIN_VALUE, 0x7fff8000L, 255, 200},
            {0, 1, -1, Integer.MAX_VALUE, Integer.MIN_VALUE, 1L << 32, Long.MAX_VALUE, Long.MIN_VALUE, Long.MIN_VALUE + 1}};
        long[][] holds = {
            {0, 1, -1, 127, -128, -127, -1, 0, 1, -127, -128, 127, 0, -1, 0, -128, 0},
            {0, 1, -1, 32767, -32768, -1, 0, 1, -32768, 32767, -1, 0, -32768, 255, 200},
            wrote[2]};
        for (int kind = 0; kind < BITS.length; kind++) {
            OwingSwings x = with(BITS[kind], 3);
            for (int i = 0; i < wrote[kind].length; i++) {
                x.write(0, 1, wrote[kind][i]);
                due.same(BITS[kind] + " bits of " + wrote[kind][i], x.write(0, 1, 7), holds[kind][i]);
            }
            due.same("the one before stays", x.write(0, 0, 0), 0);
            due.same("the one behind stays", x.write(0, 2, 0), 0);
            due.same("no finding", x.status(-1), 0);
        }
    }

    // "n numbers of a sheet from one on come to another one from one on (as they all were): n."

    private static OwingSwings withRows() {
        OwingSwings x = new OwingSwings();
        x.sheet(0, 64, 5);
        x.sheet(1, 64, 3);
        x.sheet(2, 8, 5);
        for (int i = 0; i < 5; i++) {
            x.write(0, i, i + 1);
        }
        for (int i = 0; i < 3; i++) {
            x.write(1, i, i + 11);
        }
        return x;
    }

    private static void copy() {
        twins.range("copy(s, ..)", SheetsEdgesTest::fourRows, (x, v) -> x.copy(v, 0, 1, 0, 1), 0, 3);
        twins.range("copy(.., t, ..)", SheetsEdgesTest::fourRows, (x, v) -> x.copy(1, 0, v, 0, 1), 0, 3);
        twins.range("copy from", SheetsEdgesTest::fourRows, (x, v) -> x.copy(0, v, 1, 0, 1), 0, 1);
        twins.range("copy to", SheetsEdgesTest::fourRows, (x, v) -> x.copy(0, 0, 1, v, 1), 0, 1);
        twins.range("copy n", SheetsEdgesTest::fourRows, (x, v) -> x.copy(0, 0, 1, 0, v), 0, 2);
        OwingSwings x = new OwingSwings();
        x.sheet(0, 64, 40);
        x.sheet(1, 64, 40);
        for (int i = 0; i < 40; i++) {
            x.write(0, i, Long.MIN_VALUE + i);
        }
        due.same("all 40", x.copy(0, 0, 1, 0, 40), 40);
        for (int i = 0; i < 40; i++) {
            due.same("number " + i, x.write(1, i, 0), Long.MIN_VALUE + i);
            due.same("it stays there", x.write(0, i, 0), Long.MIN_VALUE + i);
        }
        due.same("41", x.copy(0, 0, 1, 0, 41), Due.BEYOND);
    }

    private static OwingSwings fourRows() {
        OwingSwings x = new OwingSwings();
        for (int s = 0; s < 4; s++) {
            x.sheet(s, 16, 2);
            x.write(s, 0, s + 1);
            x.write(s, 1, -1 - s);
        }
        return x;
    }

    // "BEYOND: no such sheet (either). MISSING: one is. KIND: they are not of as many bits. BEYOND: one has not so
    // many, or from, to or n is below 0."

    private static void copyFindings() {
        for (int s : NO_SHEETS) {
            twins.refused("no sheet before MISSING", Twins::mixed, x -> x.copy(s, 0, 3, 0, 0), Due.BEYOND);
            twins.refused("no sheet before MISSING", Twins::mixed, x -> x.copy(3, 0, s, 0, 0), Due.BEYOND);
            twins.refused("no sheet, neither", Twins::mixed, x -> x.copy(s, 0, s, 0, 0), Due.BEYOND);
        }
        for (int s = 0; s < 4; s++) {
            int other = s;
            twins.refused("MISSING, from " + s, Twins::mixed, x -> x.copy(other, 0, 3, 0, 0), Due.MISSING);
            twins.refused("MISSING, to " + s, Twins::mixed, x -> x.copy(3, 0, other, 0, 0), Due.MISSING);
            twins.refused("MISSING before BEYOND", Twins::mixed, x -> x.copy(3, -1, other, -1, -1), Due.MISSING);
        }
        for (int s = 0; s < 3; s++) {
            for (int t = 0; t < 3; t++) {
                int from = s;
                int to = t;
                if (s == t) {
                    twins.told("none in itself", Twins::mixed, x -> x.copy(from, 0, to, 0, 0), 0);
                } else {
                    twins.refused("KIND with none to copy", Twins::mixed, x -> x.copy(from, 0, to, 0, 0), Due.KIND);
                    twins.refused("KIND before BEYOND", Twins::mixed, x -> x.copy(from, -1, to, 41, -1), Due.KIND);
                }
            }
        }
    }

    /** Of 5 numbers to 3: from, to and n at their ends and one beyond, and where a sum would wrap around. */
    private static void copyBoundaries() {
        int most = Integer.MAX_VALUE;
        int least = Integer.MIN_VALUE;
        int[][] taken = {{0, 0, 3}, {2, 0, 3}, {4, 2, 1}, {0, 2, 1}, {5, 3, 0}, {0, 0, 0}, {5, 0, 0}, {0, 3, 0}};
        for (int[] a : taken) {
            due.same("copy of " + a[2], withRows().copy(0, a[0], 1, a[1], a[2]), a[2]);
        }
        int[][] beyond = {{3, 0, 3}, {0, 1, 3}, {0, 0, 4}, {5, 0, 1}, {0, 3, 1}, {6, 0, 0}, {0, 4, 0}, {-1, 0, 1}, {0, -1, 1}, {0, 0, -1},
            {-1, 0, 0}, {0, -1, 0}, {5, 3, -1}, {most, 0, 1}, {0, most, 1}, {0, 0, most}, {most, most, most}, {1, 0, most}, {0, 1, most},
            {least, 0, 1}, {0, least, 1}, {0, 0, least}, {least, least, least}, {most, 0, most}, {most, 0, 2}, {2, 2, least}, {most, 0, 0}};
        for (int[] a : beyond) {
            String call = "copy(0, " + a[0] + ", 1, " + a[1] + ", " + a[2] + ")";
            twins.refused(call, SheetsEdgesTest::withRows, x -> x.copy(0, a[0], 1, a[1], a[2]), Due.BEYOND);
        }
        OwingSwings x = withRows();
        x.copy(0, 4, 1, 2, 1);
        long[] want = {11, 12, 5};
        for (int i = 0; i < 3; i++) {
            due.same("the last to the last", x.write(1, i, 0), want[i]);
        }
    }

    private static void copyAsTheyAllWere() {
        int[][] moves = {{0, 1, 4}, {1, 0, 4}, {0, 0, 5}, {0, 2, 3}, {2, 0, 3}, {0, 4, 1}, {4, 0, 1}};
        long[][] want = {{1, 1, 2, 3, 4}, {2, 3, 4, 5, 5}, {1, 2, 3, 4, 5}, {1, 2, 1, 2, 3}, {3, 4, 5, 4, 5}, {1, 2, 3, 4, 1}, {5, 2, 3, 4, 5}};
        for (int m = 0; m < moves.length; m++) {
            OwingSwings x = withRows();
            due.same("in itself", x.copy(0, moves[m][0], 0, moves[m][1], moves[m][2]), moves[m][2]);
            for (int i = 0; i < 5; i++) {
                due.same("move " + m + ", number " + i, x.write(0, i, 0), want[m][i]);
            }
        }
    }

    // "Numbers of a sheet become HEIGHTS of CHILDREN 0, 1, .. (those that aren't 0 to 200, or stand for none, are left out)"

    private static void lays() {
        twins.range("lays(s)", SheetsEdgesTest::fourRows, OwingSwings::lays, 0, 3);
        twins.range("lays(s), BEYOND before MISSING", Twins::nobody, OwingSwings::lays, 0, 3);
        twins.refused("MISSING", Twins::mixed, x -> x.lays(3), Due.MISSING);
        twins.told("no numbers", Twins::mixed, x -> x.lays(2), 0);
        twins.told("nobody there", SheetsEdgesTest::fourRows, x -> x.lays(0), 0);
    }

    private static void laysHeights() {
        long[] left = {-1, 201, 202, 255, 256, 456, -56, Integer.MAX_VALUE, Integer.MIN_VALUE, Long.MAX_VALUE, Long.MIN_VALUE, 1L << 32, (1L << 32) + 200};
        for (long v : left) {
            OwingSwings x = with(64, 2);
            x.write(0, 0, v);
            x.write(0, 1, 3);
            due.same("left out: " + v, x.lays(0), 1);
            due.same("as it was", x.of(0, 1), 50);
            due.same("the next one came", x.of(1, 1), 3);
        }
        long[] come = {0, 1, 199, 200};
        for (long v : come) {
            OwingSwings x = with(64, 2);
            x.write(0, 0, v);
            due.same("both come", x.lays(0), 2);
            due.same("HEIGHT " + v, x.of(0, 1), v);
            due.same("OWES nothing for it", x.of(0, 3), 100000);
            due.same("the number stays", x.write(0, 0, 0), v);
        }
        OwingSwings x = with(8, 2);
        x.write(0, 0, 127);
        x.write(0, 1, 128);
        due.same("of 8 bits 128 is below 0", x.lays(0), 1);
        due.same("127 came", x.of(0, 1), 127);
        due.same("128 did not", x.of(1, 1), 50);
    }

    private static void laysAsManyAsThereAre() {
        int[] counts = {0, 1, 7, 8, 9, 40};
        for (int n : counts) {
            OwingSwings x = Twins.eight();
            x.sheet(3, 16, n);
            for (int i = 0; i < n; i++) {
                x.write(3, i, 60 + i);
            }
            due.same("of " + n, x.lays(3), Math.min(n, 8));
            for (int child = 0; child < 8; child++) {
                due.same("HEIGHT of " + child, x.of(child, 1), child < n ? 60 + child : 50);
            }
        }
        OwingSwings one = Twins.one();
        one.sheet(0, 8, 40);
        due.same("one alone", one.lays(0), 1);
        due.same("all 0", one.of(0, 1), 0);
    }

    // "A book: HEIGHT of one ON 0, 1, 2, .. MINUTES comes to a sheet, as many as it has numbers: how many."
    // "BEYOND: no such sheet. MISSING. BEYOND: child."

    private static void book() {
        twins.range("book(0, child)", Twins::mixed, (x, v) -> x.book(0, v), 0, 5);
        twins.range("book(s, 0), BEYOND before MISSING", Twins::one, (x, v) -> x.book(v, 0), 0, 3);
        int[] noChildren = {Integer.MIN_VALUE, -1, 6, Integer.MAX_VALUE};
        for (int child : noChildren) {
            twins.refused("MISSING before child", Twins::mixed, x -> x.book(3, child), Due.MISSING);
            twins.refused("no numbers, child", Twins::mixed, x -> x.book(2, child), Due.BEYOND);
            twins.refused("no sheet, child", Twins::mixed, x -> x.book(4, child), Due.BEYOND);
        }
        twins.refused("nobody there", SheetsEdgesTest::fourRows, x -> x.book(0, 0), Due.BEYOND);
        twins.refused("nobody there, MISSING", Twins::nobody, x -> x.book(0, 0), Due.MISSING);
        twins.told("no numbers", Twins::mixed, x -> x.book(2, 0), 0);
    }

    private static void bookIsOn() {
        int[] counts = {1, 2, 39, 40};
        for (int n : counts) {
            OwingSwings x = Twins.eight();
            x.minutes(30);
            x.sheet(0, 64, n);
            x.sheet(1, 64, 1);
            due.same("book of " + n, x.book(0, 7), n);
            for (int i = 0; i < n; i++) {
                due.same("ON " + i, x.write(0, i, 0), x.on(7, i, 0));
            }
            due.same("the other sheet stays", x.write(1, 0, 0), 0);
            due.same("no MINUTE went", x.now(0), 30);
        }
    }

    private static void bookInFewBits() {
        int[] heights = {0, 127, 128, 200};
        int[] in8 = {0, 127, -128, -56};
        for (int i = 0; i < heights.length; i++) {
            OwingSwings x = Twins.one();
            x.set(0, 1, heights[i]);
            for (int kind = 0; kind < BITS.length; kind++) {
                x.sheet(kind, BITS[kind], 1);
                due.same("book", x.book(kind, 0), 1);
                due.same(heights[i] + " in " + BITS[kind] + " bits", x.write(kind, 0, 0), BITS[kind] == 8 ? in8[i] : heights[i]);
            }
        }
    }

    // "how many pairs of a KIND of it and a KIND of another one make it just so. BEYOND: no such sheet. MISSING.
    // BEYOND: child, other (also one and the same)."

    private static void read() {
        twins.range("read(0, child, 1)", Twins::mixed, (x, v) -> x.read(0, v, 1), 0, 5);
        twins.range("read(0, 1, other)", Twins::mixed, (x, v) -> x.read(0, 1, v), 0, 5);
        twins.range("read(s, 0, 1), BEYOND before MISSING", Twins::eight, (x, v) -> x.read(v, 0, 1), 0, 3);
        for (int child = 0; child < 6; child++) {
            int who = child;
            twins.refused("one and the same", Twins::mixed, x -> x.read(0, who, who), Due.BEYOND);
            twins.refused("one and the same, no numbers", Twins::mixed, x -> x.read(2, who, who), Due.BEYOND);
            twins.refused("MISSING before one and the same", Twins::mixed, x -> x.read(3, who, who), Due.MISSING);
        }
        twins.refused("MISSING before no such ones", Twins::mixed, x -> x.read(3, -1, 6), Due.MISSING);
        twins.refused("no sheet and no such ones", Twins::mixed, x -> x.read(-1, -1, 6), Due.BEYOND);
        twins.refused("nobody there", SheetsEdgesTest::fourRows, x -> x.read(0, 0, 1), Due.BEYOND);
        twins.refused("one alone", () -> alone(8), x -> x.read(0, 0, 1), Due.BEYOND);
        twins.refused("one alone, the same", () -> alone(8), x -> x.read(0, 0, 0), Due.BEYOND);
        twins.told("no numbers: all pairs", Twins::mixed, x -> x.read(2, 0, 5), 36);
    }

    private static OwingSwings alone(int bits) {
        OwingSwings x = Twins.one();
        x.sheet(0, bits, 1);
        return x;
    }

    private static void readPairs() {
        OwingSwings x = with(64, 1);
        x.write(0, 0, 50);
        due.same("ON 0 each pair does", x.read(0, 0, 1), 36);
        long[] others = {0, 49, 51, (1L << 32) + 50, Long.MIN_VALUE, Long.MAX_VALUE};
        for (long v : others) {
            x.write(0, 0, v);
            due.same("none is at " + v, x.read(0, 0, 1), 0);
        }
        OwingSwings dust = with(16, 2);
        dust.set(0, 1, 0);
        dust.set(1, 1, 0);
        due.same("nothing there to be had: each pair", dust.read(0, 0, 1), 36);
        dust.write(0, 1, 1);
        due.same("nothing there to be had: no pair", dust.read(0, 0, 1), 0);
        OwingSwings queens = with(64, 40);
        queens.book(0, 0);
        due.same("40 numbers of BIG by CHILD: QUEEN does as well", queens.read(0, 0, 1), 2);
        long was = queens.write(0, 39, 0);
        due.same("the last number counts", queens.read(0, 0, 1), 0);
        queens.write(0, 39, was);
        due.same("and so does it again", queens.read(0, 0, 1), 2);
        due.same("nothing changed", queens.of(0, 0), 1);
        due.same("nothing changed", queens.now(0), 0);
    }
}
