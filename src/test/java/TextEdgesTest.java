/** Promises 24 to 26, at their edges: feed, wipe, ground; and THE TEXT of a GROUND. */
final class TextEdgesTest {
    private static final Due due = new Due();
    private static final Twins twins = new Twins(due);
    private static final String[] KINDS = {"child", "big", "small", "kind", "queen", "baby"};
    /** What may stand nowhere but where it is said: all WORDS there are, another one, the SIGN, and no TOKEN. */
    private static final String[] TOKENS = {"child", "big", "small", "kind", "queen", "baby", "high", "marbles", "push", "dark", "x", ";", "#"};
    private static final String[] NUMBERS = {"0", "1", "2", "58", "59", "60", "98", "99", "100", "199", "200", "201", "998", "999", "1000",
        "4294967295", "4294967296", "4294967297", "18446744073709551617"};

    public static void main(String[] args) {
        feed();
        feedTakesTheLowestBytes();
        feedTillItIsFull();
        wipe();
        whatMayStandWhere();
        anotherWord();
        numbersThatMayBe();
        endsTooEarly();
        faultIsTheFirst();
        aFaultChangesNothing();
        theNinth();
        eightAtOnce();
        pushOneThereByThen();
        itemsComeToWhatThereIs();
        tokensAsLongAsCanBe();
        everyByteBesideAToken();
        bytesOfAnEarlierText();
        aFullTape();
        mostItems();
        groundIsNoFinding();
        due.end();
    }

    private static int told(OwingSwings x, String text) {
        Due.tell(x, text);
        due.same("fed " + text, x.count(1), text.length());
        int answer = x.ground();
        due.same("the tape is empty after " + text, x.count(1), 0);
        return answer;
    }

    private static OwingSwings two() {
        return Due.with(0, 0);
    }

    private static void fault(String text, int place) {
        OwingSwings x = two();
        due.same("FAULT of '" + text + "'", told(x, text), -1 - place);
        due.same("no child came of " + text, x.count(0), 2);
        due.same("no push came of " + text, x.now(4), 100);
        due.same("no dark came of " + text, x.dark(50), 50);
        due.same("no finding in " + text, x.status(-1), 0);
    }

    private static void items(String text, int items) {
        OwingSwings x = two();
        due.same("ITEMS of '" + text + "'", told(x, text), items);
        due.same("no finding in " + text, x.status(-1), 0);
    }

    private static String many(String piece, int times) {
        return piece.repeat(times);
    }

    // "THE TAPE gets the n lowest bytes of a number behind it, the highest of these first (n 1 to 4) .. BEYOND: n. FULL."

    private static void feed() {
        twins.range("feed(0, n)", Twins::mixed, (x, v) -> x.feed(0, v), 1, 4);
        twins.range("feed(MIN, n)", Twins::mixed, (x, v) -> x.feed(Integer.MIN_VALUE, v), 1, 4);
        int[] any = {Integer.MIN_VALUE, -1, 0, 1, Integer.MAX_VALUE};
        for (int bytes : any) {
            OwingSwings x = new OwingSwings();
            int has = 0;
            for (int n = 1; n <= 4; n++) {
                has += n;
                due.same("feed(" + bytes + ", " + n + ") tells how many it has", x.feed(bytes, n), has);
            }
        }
    }

    private static void feedTakesTheLowestBytes() {
        int[][][] ways = {
            {{0x64, 1}, {0x61, 1}, {0x72, 1}, {0x6b, 1}, {0x37, 1}},
            {{0xffffff64, 1}, {0x12345661, 1}, {0x80000072, 1}, {0x0000ff6b, 1}, {0x20203337, 1}},
            {{0x6461, 2}, {0x7fff726b, 2}, {0x37, 1}},
            {{0x646172, 3}, {0xff6b37, 2}},
            {{0xee646172, 3}, {0x6b37, 2}},
            {{0x6461726b, 4}, {0x37, 1}},
            {{0x64, 1}, {0x61726b37, 4}}};
        for (int way = 0; way < ways.length; way++) {
            OwingSwings x = new OwingSwings();
            for (int[] piece : ways[way]) {
                x.feed(piece[0], piece[1]);
            }
            due.same("'dark7', way " + way, x.ground(), 1);
            due.same("DARK then, way " + way, x.dark(0), 7);
        }
    }

    private static OwingSwings tapeOf(int bytes) {
        OwingSwings x = Twins.one();
        for (int i = 0; i < bytes / 4; i++) {
            x.feed(0x20202020, 4);
        }
        for (int i = 0; i < bytes % 4; i++) {
            x.feed(0x20, 1);
        }
        return x;
    }

    private static void feedTillItIsFull() {
        for (int has = 116; has <= 120; has++) {
            int bytes = has;
            for (int n = 1; n <= 4; n++) {
                int more = n;
                if (has + n > 120) {
                    twins.refused(has + " and " + n, () -> tapeOf(bytes), x -> x.feed(0x23232323, more), Due.FULL);
                } else {
                    due.same(has + " and " + n, tapeOf(has).feed(0x23232323, n), has + n);
                }
            }
            twins.refused("BEYOND before FULL", () -> tapeOf(bytes), x -> x.feed(0, 5), Due.BEYOND);
            twins.refused("BEYOND before FULL", () -> tapeOf(bytes), x -> x.feed(0, 0), Due.BEYOND);
        }
        OwingSwings x = tapeOf(120);
        x.wipe();
        due.same("room again", x.feed(0, 4), 4);
    }

    // "THE TAPE is empty: how many it had."

    private static void wipe() {
        due.same("wipe of nothing", new OwingSwings().wipe(), 0);
        int[] lengths = {1, 119, 120};
        for (int length : lengths) {
            OwingSwings x = tapeOf(length);
            due.same("wipe of " + length, x.wipe(), length);
            due.same("empty", x.count(1), 0);
            due.same("again", x.wipe(), 0);
            due.same("no finding", x.status(-1), 0);
        }
        OwingSwings x = Twins.mixed();
        due.same("wipe", x.wipe(), 11);
        due.same("the CHILDREN stay", x.count(0), 6);
        due.same("the sheets stay", x.write(0, 1, 0), 21);
        due.same("the image stays", x.tear(), 1);
        twins.told("an empty tape stays so", Twins::eight, OwingSwings::wipe, 0);
    }

    // "TEXT: ITEM { ; ITEM }. ITEM: .."

    /** Behind a part of a TEXT: the TOKENS that may stand there, those that end it well marked by a stroke. */
    private static final String[][] MAY_STAND = {
        {"", "child|", "big|", "small|", "kind|", "queen|", "baby|", "push", "dark"},
        {"dark 1; ", "child|", "big|", "small|", "kind|", "queen|", "baby|", "push", "dark"},
        {"child ", "high", "marbles", ";"},
        {"baby ", "high", "marbles", ";"},
        {"child high "},
        {"child high 5 ", "marbles", ";"},
        {"child marbles "},
        {"child marbles 5 ", ";"},
        {"child high 5 marbles "},
        {"child high 5 marbles 5 ", ";"},
        {"push "},
        {"push 0 "},
        {"push 0 1 ", ";"},
        {"dark "},
        {"dark 1 ", ";"}};

    private static void whatMayStandWhere() {
        for (String[] line : MAY_STAND) {
            for (String token : TOKENS) {
                boolean stands = false;
                boolean ends = false;
                for (int i = 1; i < line.length; i++) {
                    stands |= line[i].equals(token);
                    ends |= line[i].equals(token + "|");
                }
                String text = line[0] + token;
                if (ends) {
                    items(text, line[0].isEmpty() ? 1 : 2);
                } else {
                    fault(text, stands ? text.length() : line[0].length());
                }
            }
        }
    }

    // "another WORD": one letter more, one less, or another one at each place of each WORD that there is

    private static void anotherWord() {
        for (String kind : KINDS) {
            othersThan(kind, "", "");
        }
        othersThan("push", "", " 0 1");
        othersThan("dark", "", " 1");
        othersThan("high", "child ", " 1");
        othersThan("marbles", "child ", " 1");
        othersThan("marbles", "child high 1 ", " 1");
    }

    private static void othersThan(String word, String before, String behind) {
        items(before + word + behind, 1);
        for (int i = 0; i < word.length(); i++) {
            char other = word.charAt(i) == 'z' ? 'a' : (char) (word.charAt(i) + 1);
            fault(before + word.substring(0, i) + other + word.substring(i + 1) + behind, before.length());
            fault(before + word.substring(0, i) + word.substring(i + 1) + behind, before.length());
        }
        fault(before + word + "s" + behind, before.length());
        fault(before + "s" + word + behind, before.length());
    }

    // "high and a NUMBER (0 to 200) .. marbles and a NUMBER (0 to 99) .. push, a NUMBER (one there by then), a NUMBER
    // (1 to 99) .. dark and a NUMBER (0 to 59)": two are there

    private static void numbersThatMayBe() {
        numbersBehind("child high ", "", 0, 200);
        numbersBehind("child marbles ", "", 0, 99);
        numbersBehind("child high 200 marbles ", "", 0, 99);
        numbersBehind("push ", " 1", 0, 1);
        numbersBehind("push 1 ", "", 1, 99);
        numbersBehind("dark ", "", 0, 59);
        numbersBehind("", "", 1, 0);
        numbersBehind("child ", "", 1, 0);
        numbersBehind("child high 5 ", "", 1, 0);
        numbersBehind("child marbles 5 ", "", 1, 0);
        numbersBehind("push 0 5 ", "", 1, 0);
        numbersBehind("dark 5 ", "", 1, 0);
    }

    private static void numbersBehind(String before, String behind, int least, int most) {
        for (String number : NUMBERS) {
            boolean mayBe = number.length() < 4 && Integer.parseInt(number) >= least && Integer.parseInt(number) <= most;
            if (mayBe) {
                items(before + number + behind, 1);
            } else {
                fault(before + number + behind, before.length());
            }
        }
    }

    // "or how many bytes there are if it ends too early"

    private static void endsTooEarly() {
        String[] parts = {"", "child;", "child high", "child marbles", "child high 5 marbles", "push", "push 0", "push 1", "dark", "dark 1;",
            "child high 5;", "child marbles 5;", "push 0 1;"};
        for (String part : parts) {
            fault(part, part.length());
            fault(part + " ", part.length() + 1);
            fault(part + "    ", part.length() + 4);
            fault("   " + part, part.length() + 3);
        }
    }

    // "the first byte of the first TOKEN that can't stand there"

    private static void faultIsTheFirst() {
        fault("child;x;#", 6);
        fault("#;x", 0);
        fault("dark 60;dark 61", 5);
        fault("dark 59;dark 60", 13);
        fault("child high 201 marbles 100", 11);
        fault("child high 200 marbles 100", 23);
        fault("push 2 0", 5);
        fault("push 1 0", 7);
        fault("   xyz", 3);
        fault("child  ;  xyz", 10);
        fault("child ; ; child", 8);
        fault("child child child", 6);
    }

    private static OwingSwings mixedWith(String text) {
        OwingSwings x = Twins.mixed();
        x.wipe();
        Due.tell(x, text);
        return x;
    }

    // "With a FAULT: -1 less its place (nothing changes but that THE TAPE is empty; no finding)."

    private static void aFaultChangesNothing() {
        String[] texts = {"", " ", "child;dark 3;push 0 99;queen high 7 marbles 9;", "dark 3;dark 60", "push 0 1;push 6 1", "baby;baby;baby"};
        for (String text : texts) {
            OwingSwings spoilt = mixedWith(text);
            due.same("a FAULT in '" + text + "'", spoilt.ground() < 0 ? 1 : 0, 1);
            OwingSwings wiped = mixedWith(text);
            wiped.wipe();
            twins.alike("as if it had been wiped: '" + text + "'", spoilt, wiped);
        }
    }

    // "the name of a KIND for a 9th: its own"

    private static void theNinth() {
        for (String kind : KINDS) {
            due.same("a 9th at once", told(Twins.eight(), kind), -1);
            due.same("a 9th behind blanks", told(Twins.eight(), "  " + kind + " high 3"), -3);
            due.same("a 9th behind others", told(Twins.eight(), "dark 1;push 7 9;" + kind + " x"), -17);
        }
        OwingSwings x = Twins.eight();
        due.same("what comes first is told first", told(x, "x;big"), -1);
        due.same("push and dark still may be", told(x, "push 7 1;dark 0"), 2);
        OwingSwings seven = Due.with(0, 0, 0, 0, 0, 0, 0);
        due.same("an 8th and a 9th", told(seven, "big;big"), -5);
        due.same("seven as before", seven.count(0), 7);
        due.same("an 8th", told(seven, "big"), 1);
        due.same("eight", seven.count(0), 8);
    }

    private static void eightAtOnce() {
        OwingSwings x = new OwingSwings();
        due.same("nine", told(x, many("big;", 8) + "big"), -33);
        due.same("nobody came", x.count(0), 0);
        due.same("eight", told(x, many("big;", 7) + "big"), 8);
        due.same("eight came", x.count(0), 8);
    }

    // "push, a NUMBER (one there by then)"

    private static void pushOneThereByThen() {
        OwingSwings x = new OwingSwings();
        due.same("nobody there", told(x, "push 0 1"), -6);
        due.same("nobody there yet", told(x, "push 0 1;child"), -6);
        due.same("one there by then", told(x, "child;push 0 1"), 2);
        due.same("pushed", x.of(0, 1), 51);
        due.same("no second one", told(x, "push 1 1"), -6);
        OwingSwings eight = Twins.eight();
        due.same("the last of eight", told(eight, "push 7 99;push 7 99"), 2);
        due.same("200 at most", eight.of(7, 1), 200);
        due.same("nobody has it FROM anybody", eight.of(7, 3), 100000);
        due.same("none but it", eight.now(4), 550);
        due.same("no 9th", told(eight, "push 8 1"), -6);
    }

    // "whose ITEMS come to what there is, and empty then: how many ITEMS"

    private static void itemsComeToWhatThereIs() {
        OwingSwings x = Due.with(4, 5);
        x.minutes(7);
        x.set(0, 3, 9);
        x.set(0, 1, 30);
        x.set(1, 1, 199);
        due.same("items", told(x, "push 1 99;kind high 0 marbles 0;kind high 200 marbles 99;small;push 2 1;dark 0;dark 59"), 7);
        int[][] want = {{4, 30, 5, 100009}, {5, 200, 5}, {3, 1, 0, 100000}, {3, 200, 99, 100000}, {2, 50, 5, 100000}};
        for (int child = 0; child < want.length; child++) {
            for (int what = 0; what < want[child].length; what++) {
                due.same("of(" + child + ", " + what + ")", x.of(child, what), want[child][what]);
            }
        }
        due.same("no more", x.count(0), 5);
        due.same("the last DARK", x.dark(59), 59);
        due.same("MINUTE stays", x.now(0), 7);
    }

    // "TOKENS, each as long as can be: WORDS (letters a to z), NUMBERS (digits, 999 at most), SIGN ; ; blanks may stand between"

    private static void tokensAsLongAsCanBe() {
        items("child;big;dark1;push0 1", 4);
        fault("childhigh 5", 0);
        fault("child;childbig", 6);
        fault("push 01", 7);
        fault("push 0 1dark", 8);
        items("child high5marbles5;dark5", 2);
        items(" child ; dark 5 ", 2);
        fault("dar k 5", 0);
        fault("dark 5 9", 7);
        fault("big high 2 00", 11);
        fault("Dark 5", 0);
        fault("dArk 5", 0);
        fault("darK 5", 0);
        fault("dark-5", 4);
        fault("dark +5", 5);
        fault("dark 5.", 6);
    }

    private static void everyByteBesideAToken() {
        for (int b = 0; b < 256; b++) {
            boolean isLetter = b >= 'a' && b <= 'z';
            boolean isDigit = b >= '0' && b <= '9';
            String sign = "" + (char) b;
            int behindNumber = isDigit || b == ' ' ? 2 : b == ';' ? -8 : -7;
            due.same("byte " + b + " behind a NUMBER", told(two(), "dark 1" + sign + ";dark 2"), behindNumber);
            int between = isLetter ? -1 : b == ' ' || isDigit && b <= '5' ? 1 : -5;
            due.same("byte " + b + " behind a WORD", told(two(), "dark" + sign + "1"), between);
            due.same("byte " + b + " before a WORD", told(two(), sign + "dark 1"), b == ' ' ? 1 : -1);
            due.same("byte " + b + " behind a SIGN", told(two(), "dark 1;" + sign + "dark 2"), b == ' ' ? 2 : -8);
            int atTheEnd = isDigit || b == ' ' ? 1 : b == ';' ? -8 : -7;
            due.same("byte " + b + " at the end", told(two(), "dark 1" + sign), atTheEnd);
        }
    }

    /** What stood behind the bytes that there are is none of THE TEXT. */
    private static void bytesOfAnEarlierText() {
        OwingSwings x = new OwingSwings();
        Due.tell(x, "dark 59 59;;");
        x.wipe();
        due.same("a NUMBER ends with the tape", told(x, "dark 5"), 1);
        due.same("DARK is 5, not 59", x.dark(50), 5);
        Due.tell(x, "childsssss");
        x.wipe();
        due.same("a WORD ends with the tape", told(x, "child"), 1);
        Due.tell(x, "dark      ");
        x.wipe();
        due.same("blanks end with the tape", told(x, "dark"), -5);
        Due.tell(x, "dark 1;dark 2");
        x.wipe();
        due.same("a SIGN ends the tape", told(x, "dark 1;"), -8);
        Due.tell(x, "dark 1;dark 2");
        due.same("two", x.ground(), 2);
        due.same("and none of them again", x.ground(), -1);
    }

    // "THE TAPE (bytes, at most 120)"

    private static void aFullTape() {
        items("dark 5" + many(" ", 114), 1);
        items(many(" ", 114) + "dark 5", 1);
        items(many(" ", 115) + "child", 1);
        fault(many(" ", 120), 120);
        fault(many(" ", 116) + "dark", 120);
        fault(many(" ", 113) + "dark 5;", 120);
        fault(many(" ", 119) + "#", 119);
        fault(many(" ", 119) + "5", 119);
        fault(many("a", 120), 0);
        fault(many("9", 120), 0);
        fault(many(";", 120), 0);
        fault("dark " + many("9", 115), 5);
        fault("dark 1" + many(";", 114), 7);
        fault("child " + many("x", 114), 6);
        items("dark " + many("0", 113) + "59", 1);
        fault("dark " + many("0", 113) + "60", 5);
    }

    private static void mostItems() {
        OwingSwings x = new OwingSwings();
        due.same("twenty", told(x, many("dark1;", 19) + "dark12"), 20);
        due.same("the last one counts", x.dark(50), 12);
        due.same("twenty and none", told(x, many("dark1;", 20)), -121);
        due.same("nothing came", x.dark(50), 50);
    }

    private static void groundIsNoFinding() {
        OwingSwings x = Twins.eight();
        due.same("a FAULT at 0", told(x, "#"), -1);
        due.same("a FAULT at 120", told(x, many(" ", 120)), -121);
        due.same("a 9th is no FULL", told(x, "big"), -1);
        due.same("a wrong NUMBER is no BEYOND", told(x, "dark 60"), -6);
        for (int which = -1; which < 7; which++) {
            due.same("no finding", x.status(which), 0);
        }
    }
}
