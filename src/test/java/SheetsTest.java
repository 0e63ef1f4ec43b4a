/** Promises 27 to 32: sheet, write, copy, lays, book, read. */
final class SheetsTest {
    private static final Due due = new Due();

    public static void main(String[] args) {
        sheet();
        write();
        copy();
        lays();
        book();
        read();
        due.end();
    }

    private static void sheet() {
        OwingSwings x = new OwingSwings();
        due.same("sheet of 40", x.sheet(3, 64, 40), 40);
        due.same("sheet of 0", x.sheet(0, 8, 0), 0);
        due.same("no number there", x.write(0, 0, 1), Due.BEYOND);
        due.same("sheet 4", x.sheet(4, 8, 1), Due.BEYOND);
        due.same("sheet -1", x.sheet(-1, 8, 1), Due.BEYOND);
        due.same("bits 32", x.sheet(0, 32, 1), Due.BEYOND);
        due.same("bits -8", x.sheet(0, -8, 1), Due.BEYOND);
        due.same("bits before SIZE", x.sheet(0, 7, -1), Due.BEYOND);
        due.same("sheet before SIZE", x.sheet(9, 8, -1), Due.BEYOND);
        due.same("SIZE", x.sheet(0, 8, -1), Due.SIZE);
        due.same("SIZE far", x.sheet(0, 8, Integer.MIN_VALUE), Due.SIZE);
        due.same("SIZE with bits 0", x.sheet(0, 0, -1), Due.SIZE);
        due.same("41", x.sheet(0, 8, 41), Due.BEYOND);
        due.same("41 with bits 0", x.sheet(0, 0, 41), Due.BEYOND);
        due.same("most", x.sheet(0, 64, Integer.MAX_VALUE), Due.BEYOND);
        x.write(3, 39, 5);
        due.same("a new one is all 0", x.sheet(3, 64, 40), 40);
        due.same("0 there", x.write(3, 39, 7), 0);
        due.same("MISSING again", x.sheet(3, 0, 40), 0);
        due.same("write on none", x.write(3, 39, 7), Due.MISSING);
        x.sheet(3, 8, 40);
        due.same("nothing comes back", x.write(3, 39, 7), 0);
    }

    private static void write() {
        OwingSwings x = new OwingSwings();
        x.sheet(0, 8, 2);
        x.sheet(1, 16, 2);
        x.sheet(2, 64, 2);
        long[] wrote = {127, 128, 255, 256, -1, -129, 32767, 32768, 65536, Long.MAX_VALUE, Long.MIN_VALUE, 0x1234567890abcdefL};
        for (long v : wrote) {
            x.write(0, 1, v);
            due.same("8 bits of " + v, x.write(0, 1, 0), (byte) v);
            x.write(1, 1, v);
            due.same("16 bits of " + v, x.write(1, 1, 0), (short) v);
            x.write(2, 1, v);
            due.same("64 bits of " + v, x.write(2, 1, 0), v);
        }
        due.same("its neighbour", x.write(0, 0, 0), 0);
        due.same("sheet 4", x.write(4, 0, 0), Due.BEYOND);
        due.same("sheet -1", x.write(-1, 0, 0), Due.BEYOND);
        due.same("MISSING before BEYOND", x.write(3, 99, 0), Due.MISSING);
        due.same("number 2", x.write(0, 2, 0), Due.BEYOND);
        due.same("number -1", x.write(0, -1, 0), Due.BEYOND);
        for (int far : Due.FAR) {
            due.same("number far", x.write(0, far, 0), Due.BEYOND);
            due.same("sheet far", x.write(far, 0, 0), Due.BEYOND);
        }
        x.write(2, 0, Due.BEYOND);
        int before = x.status(-1);
        due.same("a number like a finding", x.write(2, 0, 0), Due.BEYOND);
        due.same("is none", x.status(-1), before);
    }

    private static void numbers(String when, OwingSwings x, int s, int... want) {
        for (int i = 0; i < want.length; i++) {
            long is = x.write(s, i, 0);
            x.write(s, i, is);
            due.same(when + ": number " + i, is, want[i]);
        }
    }

    private static void copy() {
        OwingSwings x = new OwingSwings();
        x.sheet(0, 8, 5);
        x.sheet(1, 8, 3);
        x.sheet(2, 16, 5);
        for (int i = 0; i < 5; i++) {
            x.write(0, i, i + 1);
        }
        due.same("copy", x.copy(0, 3, 1, 1, 2), 2);
        numbers("copied", x, 1, 0, 4, 5);
        due.same("copy upwards in itself", x.copy(0, 0, 0, 1, 4), 4);
        numbers("as they all were", x, 0, 1, 1, 2, 3, 4);
        due.same("copy downwards in itself", x.copy(0, 1, 0, 0, 4), 4);
        numbers("as they all were", x, 0, 1, 2, 3, 4, 4);
        due.same("none at the end", x.copy(0, 5, 1, 3, 0), 0);
        due.same("none behind the end", x.copy(0, 6, 1, 0, 0), Due.BEYOND);
        due.same("too many there", x.copy(0, 3, 1, 0, 3), Due.BEYOND);
        due.same("too many here", x.copy(0, 0, 1, 1, 3), Due.BEYOND);
        due.same("from below", x.copy(0, -1, 1, 0, 1), Due.BEYOND);
        due.same("to below", x.copy(0, 0, 1, -1, 1), Due.BEYOND);
        due.same("n below", x.copy(0, 0, 1, 0, -1), Due.BEYOND);
        due.same("n least", x.copy(0, 0, 1, 0, Integer.MIN_VALUE), Due.BEYOND);
        due.same("wraps around", x.copy(0, 1, 1, 1, Integer.MAX_VALUE), Due.BEYOND);
        due.same("wraps around too", x.copy(0, Integer.MAX_VALUE, 1, Integer.MAX_VALUE, 1), Due.BEYOND);
        due.same("other bits", x.copy(0, 0, 2, 0, 1), Due.KIND);
        due.same("KIND before BEYOND", x.copy(0, -1, 2, 0, 1), Due.KIND);
        due.same("MISSING", x.copy(0, 0, 3, 0, 1), Due.MISSING);
        due.same("MISSING source", x.copy(3, -1, 0, 0, 1), Due.MISSING);
        due.same("no such sheet", x.copy(4, 0, 3, 0, 1), Due.BEYOND);
        due.same("no such sheet either", x.copy(3, 0, -1, 0, 1), Due.BEYOND);
        numbers("nothing changed", x, 0, 1, 2, 3, 4, 4);
        numbers("nothing changed", x, 1, 0, 4, 5);
    }

    private static void lays() {
        OwingSwings x = Due.with(0, 0, 0, 0);
        due.same("MISSING", x.lays(0), Due.MISSING);
        due.same("sheet 4", x.lays(4), Due.BEYOND);
        due.same("sheet -1", x.lays(-1), Due.BEYOND);
        x.sheet(0, 64, 6);
        x.write(0, 0, 200);
        x.write(0, 1, 201);
        x.write(0, 2, 0);
        x.write(0, 3, (1L << 32) + 5);
        due.same("two of six", x.lays(0), 2);
        due.same("200 came", x.of(0, 1), 200);
        due.same("201 did not", x.of(1, 1), 50);
        due.same("0 came", x.of(2, 1), 0);
        due.same("a long did not", x.of(3, 1), 50);
        x.write(0, 2, -1);
        due.same("one of six", x.lays(0), 1);
        due.same("below 0 did not", x.of(2, 1), 0);
        x.sheet(1, 16, 1);
        due.same("a short sheet", x.lays(1), 1);
        due.same("the first", x.of(0, 1), 0);
        due.same("nobody there", layZeros(), 0);
    }

    private static int layZeros() {
        OwingSwings x = new OwingSwings();
        x.sheet(0, 8, 40);
        return x.lays(0);
    }

    private static void book() {
        OwingSwings x = Due.with(1, 0);
        due.same("sheet 4", x.book(4, 0), Due.BEYOND);
        due.same("sheet 4 before child", x.book(4, 9), Due.BEYOND);
        due.same("MISSING before child", x.book(0, 9), Due.MISSING);
        x.sheet(0, 16, 4);
        due.same("no such one", x.book(0, 2), Due.BEYOND);
        due.same("no such one", x.book(0, -1), Due.BEYOND);
        due.same("book", x.book(0, 0), 4);
        numbers("booked", x, 0, 50, 52, 54, 56);
        due.same("nothing went", x.now(0), 0);
        x.book(0, 1);
        numbers("booked", x, 0, 50, 48, 46, 44);
        x.set(0, 1, 200);
        x.sheet(1, 8, 1);
        x.book(1, 0);
        numbers("in 8 bits", x, 1, (byte) 200);
        due.same("so it is none of its heights", x.read(1, 0, 1), 0);
    }

    private static void read() {
        OwingSwings x = Due.with(0, 3);
        due.same("sheet 4", x.read(4, 0, 1), Due.BEYOND);
        due.same("MISSING before children", x.read(0, 0, 0), Due.MISSING);
        x.sheet(0, 8, 1);
        due.same("one and the same", x.read(0, 1, 1), Due.BEYOND);
        due.same("no such one", x.read(0, 2, 1), Due.BEYOND);
        due.same("no such other", x.read(0, 0, 2), Due.BEYOND);
        due.same("another height", x.read(0, 0, 1), 0);
        x.write(0, 0, 50);
        due.same("its height", x.read(0, 0, 1), 36);
        x.sheet(0, 8, 2);
        x.write(0, 0, 50);
        x.write(0, 1, 55);
        // BIG and QUEEN have 5 of a KIND ONE, who then has no lower one by it
        // and of a SMALL or BABY, who has 1 back; 55 is left by KIND ONE alone
        due.same("55 of two", x.read(0, 0, 1), 2);
        x.write(0, 1, 54);
        due.same("54: of SMALL and BABY, 1 back", x.read(0, 0, 1), 4);
        due.same("kinds stay", x.of(0, 0), 0);
        due.same("kinds stay", x.of(1, 0), 3);
        x.sheet(0, 64, 0);
        due.same("an empty book", x.read(0, 0, 1), 36);
    }
}
