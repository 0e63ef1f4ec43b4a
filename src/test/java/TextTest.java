/** Promises 24 to 26: feed, wipe, ground. */
final class TextTest {
    private static final Due due = new Due();

    public static void main(String[] args) {
        feed();
        wipe();
        texts();
        faults();
        theNinth();
        everyByte();
        due.end();
    }

    private static void feed() {
        OwingSwings x = new OwingSwings();
        due.same("feed n 0", x.feed(0, 0), Due.BEYOND);
        due.same("feed n 5", x.feed(0, 5), Due.BEYOND);
        due.same("feed n -1", x.feed(0, -1), Due.BEYOND);
        for (int i = 1; i <= 29; i++) {
            due.same("feed 4", x.feed(-1, 4), 4 * i);
        }
        due.same("feed 3", x.feed(-1, 3), 119);
        due.same("feed 2 of 1", x.feed(-1, 2), Due.FULL);
        due.same("BEYOND before FULL", x.feed(-1, 5), Due.BEYOND);
        due.same("the last byte", x.feed(-1, 1), 120);
        due.same("one more", x.feed(-1, 1), Due.FULL);
        due.same("count(1)", x.count(1), 120);
        OwingSwings y = new OwingSwings();
        y.feed(0x41626967, 3);
        due.same("big, the highest byte first", y.ground(), 1);
        due.same("it is big", y.of(0, 0), 1);
    }

    private static void wipe() {
        OwingSwings x = new OwingSwings();
        Due.tell(x, "child");
        due.same("wipe", x.wipe(), 5);
        due.same("wipe again", x.wipe(), 0);
        due.same("count(1)", x.count(1), 0);
        due.same("ground of nothing", x.ground(), -1);
    }

    private static int told(OwingSwings x, String text) {
        Due.tell(x, text);
        int answer = x.ground();
        due.same("the tape is empty after " + text, x.count(1), 0);
        return answer;
    }

    private static void texts() {
        OwingSwings x = new OwingSwings();
        due.same("six", told(x, "child;big ; small;kind high 200;queen marbles 99 ;baby high 0 marbles 0"), 6);
        int[] heights = {50, 50, 50, 200, 50, 0};
        int[] marbles = {5, 5, 5, 5, 99, 0};
        for (int i = 0; i < 6; i++) {
            due.same("kind told", x.of(i, 0), i);
            due.same("height told", x.of(i, 1), heights[i]);
            due.same("marbles told", x.of(i, 2), marbles[i]);
            due.same("owes nothing", x.of(i, 3), 100000);
        }
        due.same("push and dark", told(x, "push 5 99; dark 59;push 3 1;dark 0"), 4);
        due.same("pushed", x.of(5, 1), 99);
        due.same("pushed no higher", x.of(3, 1), 200);
        due.same("dark told", x.dark(50), 0);
        due.same("no blanks, leading zeros", told(x, "baby high0020marbles007;push 006 0001"), 2);
        due.same("height", x.of(6, 1), 21);
        due.same("marbles", x.of(6, 2), 7);
        due.same("blanks around", told(x, "   dark   7   "), 1);
        due.same("dark", x.dark(50), 7);
        due.same("no finding", x.status(-1), 0);
    }

    private static void fault(String text, int place) {
        OwingSwings x = Due.with(0, 0);
        due.same("FAULT of '" + text + "'", told(x, text), -1 - place);
        due.same("no child came of " + text, x.count(0), 2);
        due.same("no push came of " + text, x.now(4), 100);
        due.same("no finding in " + text, x.status(-1), 0);
        due.same("no dark came of " + text, x.dark(50), 50);
    }

    private static void faults() {
        fault("", 0);
        fault("   ", 3);
        fault(";", 0);
        fault("child;", 6);
        fault("child; ", 7);
        fault("child;;big", 6);
        fault("child big", 6);
        fault("childs", 0);
        fault("Child", 0);
        fault("chil", 0);
        fault("vhild", 0);
        fault("childz", 0);
        fault("childa", 0);
        fault("child1", 5);
        fault("12", 0);
        fault("child#", 5);
        fault("child; push 0 9; #", 17);
        fault("child high", 10);
        fault("child high ", 11);
        fault("child high 201", 11);
        fault("child high 1000", 11);
        fault("child high 4294967296", 11);
        fault("child high 18446744073709551616", 11);
        fault("child high x", 11);
        fault("child high ;", 11);
        fault("child high 5 high 5", 13);
        fault("child marbles 100", 14);
        fault("child marbles 99 high 5", 17);
        fault("child marbles", 13);
        fault("child high 5 5", 13);
        fault("child high -5", 11);
        fault("push", 4);
        fault("push 0", 6);
        fault("push 0 ", 7);
        fault("push 2 5", 5);
        fault("child;push 2 5;push 3 5", 20);
        fault("push 0 0", 7);
        fault("push 0 100", 7);
        fault("push 0 5 5", 9);
        fault("push x", 5);
        fault("push 0 5;child;dark 0;big high 9;dark", 37);
        fault("dark 60", 5);
        fault("dark", 4);
        fault("dark dark", 5);
        fault("high 5", 0);
        fault("marbles 5", 0);
        fault("child\tbig", 5);
        fault("child\n", 5);
        fault("child" + (char) 0xe1, 5);
        fault("" + (char) 0, 0);
        OwingSwings nobody = new OwingSwings();
        due.same("push of nobody", told(nobody, "push 0 5"), -6);
    }

    private static void theNinth() {
        OwingSwings x = Due.with(0, 0, 0, 0, 0, 0, 0);
        due.same("a 9th", told(x, "big; small high 3"), -6);
        due.same("still seven", x.count(0), 7);
        due.same("an 8th", told(x, "big;push 7 1"), 2);
        due.same("eight", x.count(0), 8);
        due.same("a 9th at once", told(x, " big"), -2);
        due.same("another word at once", told(x, " bigger"), -2);
    }

    /** Only letters, digits, ; and blanks begin a TOKEN or may stand between. */
    private static void everyByte() {
        for (int b = 0; b < 256; b++) {
            OwingSwings x = new OwingSwings();
            Due.tell(x, "dark 1 ");
            x.feed(b, 1);
            Due.tell(x, " dark 2");
            int want = b == ';' ? 2 : b == ' ' ? -10 : -8;
            due.same("byte " + b, x.ground(), want);
        }
    }
}
