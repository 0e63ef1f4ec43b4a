import java.util.Arrays;

/** Swings in a ring that owe each other their heights, as ../shared/DOC.md tells them. */
public final class OwingSwings {
    private static final int BEYOND = 0;
    private static final int FULL = 1;
    private static final int KIND = 2;
    private static final int NONE = 3;
    private static final int STATE = 4;
    private static final int MISSING = 5;
    private static final int SIZE = 6;
    private static final int FINDINGS = 7;
    private static final int FIRST_FINDING = -1000000001;

    private static final int MOST_MINUTE = 99999;
    private static final int MOST_GONE = 200;
    private static final int MOST_ON = 400;
    private static final int MOST_TRIED = 100;
    private static final int MOST_NIGHT = 120;
    private static final int MOST_PUSH = 99;
    private static final int SHEETS = 4;
    private static final int WORD_BYTES = 4;
    private static final int MIDDLE_OF_OWES = 100000;
    private static final int MIDDLE_OF_WANTS = 100;

    private final Ground here;
    /** What goes ON, so that nothing changes here; used again by every call. */
    private final Ground trial;
    private final Ground kept;
    private boolean isKept;
    private final Tape tape;
    private final Sheet[] sheets;
    private final int[] findings;

    public OwingSwings() {
        here = new Ground();
        trial = new Ground();
        kept = new Ground();
        isKept = false;
        tape = new Tape();
        sheets = new Sheet[SHEETS];
        for (int s = 0; s < SHEETS; s++) {
            sheets[s] = new Sheet();
        }
        findings = new int[FINDINGS];
    }

    // ---- the ground

    public int dark(int v) {
        if (!within(v, 0, Ground.MOST_DARK)) {
            return found(BEYOND);
        }
        int was = here.darkFrom;
        here.darkFrom = v;
        return was;
    }

    public int now(int what) {
        switch (what) {
            case 0:
                return here.minute;
            case 1:
                return here.minuteOfDay();
            case 2:
                return asNumber(here.isDusk());
            case 3:
                return asNumber(here.isSaturday());
            case 4:
                return sumOf(here.heights);
            case 5:
                return asNumber(here.isLevel());
            case 6:
                return here.inTheDust();
            case 7:
                return here.highest();
            default:
                return found(BEYOND);
        }
    }

    // ---- children

    public int child(int kind) {
        if (!isKind(kind)) {
            return found(BEYOND);
        }
        if (!here.hasRoom()) {
            return found(FULL);
        }
        return here.addOne(kind);
    }

    public int of(int child, int what) {
        if (!isChild(child)) {
            return found(BEYOND);
        }
        switch (what) {
            case 0:
                return here.kinds[child];
            case 1:
                return here.heights[child];
            case 2:
                return here.purses[child];
            case 3:
                return MIDDLE_OF_OWES + here.debts[child];
            case 4:
                return MIDDLE_OF_WANTS + here.wantsOf(child);
            case 5:
                return here.paysOf(child);
            case 6:
                return here.yieldsOf(child);
            default:
                return found(BEYOND);
        }
    }

    public int set(int child, int what, int v) {
        if (!isChild(child)) {
            return found(BEYOND);
        }
        switch (what) {
            case 1:
                return put(here.heights, child, v, 0, Ground.MOST_HEIGHT);
            case 2:
                return put(here.purses, child, v, 0, Ground.MOST_MARBLES);
            case 3:
                return put(here.debts, child, v, -Ground.MOST_OWES, Ground.MOST_OWES);
            default:
                return found(BEYOND);
        }
    }

    public int turn(int child, int kind) {
        if (!isChild(child) || !isKind(kind)) {
            return found(BEYOND);
        }
        int was = here.kinds[child];
        here.kinds[child] = kind;
        return was;
    }

    public int as(int child, int kind) {
        if (!isChild(child) || !isKind(kind)) {
            return found(BEYOND);
        }
        if (!Ground.isOfKind(here.kinds[child], kind)) {
            return found(KIND);
        }
        return here.heights[child];
    }

    public int push(int child, int v) {
        if (!isChild(child) || !within(v, 1, MOST_PUSH)) {
            return found(BEYOND);
        }
        here.shove(child, v);
        return here.heights[child];
    }

    public int swap(int child, int other) {
        if (!areTwo(child, other)) {
            return found(BEYOND);
        }
        here.exchange(child, other);
        return 1;
    }

    // ---- minutes

    public int minutes(int n) {
        if (!within(n, 1, MOST_GONE)) {
            return found(BEYOND);
        }
        if (here.minute > MOST_MINUTE - n) {
            return found(STATE);
        }
        here.goOn(n);
        return here.highest();
    }

    public int on(int child, int n, int what) {
        if (!isChild(child) || !within(n, 0, MOST_ON) || !within(what, 0, 1)) {
            return found(BEYOND);
        }
        tryAsItIs();
        trial.goOn(n);
        return what == 0 ? trial.heights[child] : trial.purses[child];
    }

    public int owes(int child, int n) {
        if (!isChild(child) || !within(n, 0, MOST_ON)) {
            return found(BEYOND);
        }
        tryAsItIs();
        trial.goOn(n);
        return trial.debts[child];
    }

    public int level() {
        tryAsItIs();
        for (int gone = 0; gone <= MOST_ON; gone++) {
            if (trial.isLevel()) {
                return gone;
            }
            trial.goMinute();
        }
        return found(NONE);
    }

    public int comes(int child, int v) {
        if (!isChild(child) || !within(v, 0, Ground.MOST_HEIGHT)) {
            return found(BEYOND);
        }
        return firstMinuteWithin(child, v, Ground.MOST_HEIGHT);
    }

    public int dust(int child) {
        if (!isChild(child)) {
            return found(BEYOND);
        }
        return firstMinuteWithin(child, 0, 0);
    }

    // ---- what is best

    public int place(int child, int n) {
        if (!isChild(child) || !within(n, 1, MOST_TRIED)) {
            return found(BEYOND);
        }
        tryAsItIs();
        int most = heightLater(child, n);
        int best = -1;
        for (int other = 0; other < here.children; other++) {
            if (other != child) {
                tryAsItIs();
                trial.exchange(child, other);
                int height = heightLater(other, n);
                if (height > most) {
                    most = height;
                    best = other;
                }
            }
        }
        return best < 0 ? found(NONE) : best;
    }

    public int kind(int child, int n) {
        if (!isChild(child) || !within(n, 1, MOST_TRIED)) {
            return found(BEYOND);
        }
        int most = -1;
        int best = 0;
        for (int kind = 0; kind < Ground.KINDS; kind++) {
            tryAsItIs();
            trial.kinds[child] = kind;
            int height = heightLater(child, n);
            if (height > most) {
                most = height;
                best = kind;
            }
        }
        return best;
    }

    public int marbles(int child, int n, int v) {
        if (!isChild(child) || !within(n, 1, MOST_TRIED) || !within(v, 0, Ground.MOST_HEIGHT)) {
            return found(BEYOND);
        }
        for (int held = 0; held <= Ground.MOST_MARBLES; held++) {
            tryAsItIs();
            trial.purses[child] = held;
            if (heightLater(child, n) >= v) {
                return held;
            }
        }
        return found(NONE);
    }

    public int night(int n) {
        if (!within(n, 1, MOST_NIGHT)) {
            return found(BEYOND);
        }
        int least = Ground.MOST_HEIGHT + 1;
        int best = 0;
        for (int dark = 0; dark <= Ground.MOST_DARK; dark++) {
            tryAsItIs();
            trial.darkFrom = dark;
            trial.goOn(n);
            int apart = trial.apart();
            if (apart < least) {
                least = apart;
                best = dark;
            }
        }
        return best;
    }

    public int enough(int child, int n, int v) {
        if (!isChild(child) || !within(n, 0, MOST_TRIED) || !within(v, 0, Ground.MOST_HEIGHT)) {
            return found(BEYOND);
        }
        for (int by = 0; by <= MOST_PUSH; by++) {
            tryAsItIs();
            trial.shove(child, by);
            if (heightLater(child, n) >= v) {
                return by;
            }
        }
        return found(NONE);
    }

    public int whom(int v, int n) {
        if (!within(v, 1, MOST_PUSH) || !within(n, 0, MOST_TRIED)) {
            return found(BEYOND);
        }
        int most = -1;
        int best = -1;
        for (int child = 0; child < here.children; child++) {
            tryAsItIs();
            trial.shove(child, v);
            int height = heightLater(child, n);
            if (height > most) {
                most = height;
                best = child;
            }
        }
        return best < 0 ? found(NONE) : best;
    }

    public int debtor(int n) {
        if (!within(n, 0, MOST_ON)) {
            return found(BEYOND);
        }
        if (here.children == 0) {
            return found(NONE);
        }
        tryAsItIs();
        trial.goOn(n);
        return trial.firstOfMost(trial.debts);
    }

    // ---- the text

    public int feed(int bytes, int n) {
        if (!within(n, 1, WORD_BYTES)) {
            return found(BEYOND);
        }
        if (!tape.hasRoomFor(n)) {
            return found(FULL);
        }
        for (int i = n - 1; i >= 0; i--) {
            tape.append((byte) (bytes >> (8 * i)));
        }
        return tape.length;
    }

    public int wipe() {
        int had = tape.length;
        tape.length = 0;
        return had;
    }

    public int ground() {
        tryAsItIs();
        int items = tape.tellTo(trial);
        tape.length = 0;
        if (items >= 0) {
            here.becomeLike(trial);
        }
        return items;
    }

    // ---- sheets

    public int sheet(int s, int bits, int n) {
        if (!isSheet(s) || !Sheet.areBits(bits)) {
            return found(BEYOND);
        }
        if (n < 0) {
            return found(SIZE);
        }
        if (n > Sheet.MOST_NUMBERS) {
            return found(BEYOND);
        }
        sheets[s].renew(bits, n);
        return sheets[s].length;
    }

    public long write(int s, int i, long v) {
        if (!isSheet(s)) {
            return found(BEYOND);
        }
        Sheet sheet = sheets[s];
        if (sheet.isMissing()) {
            return found(MISSING);
        }
        if (!sheet.has(i, 1)) {
            return found(BEYOND);
        }
        long was = sheet.numbers[i];
        sheet.store(i, v);
        return was;
    }

    public int copy(int s, int from, int t, int to, int n) {
        if (!isSheet(s) || !isSheet(t)) {
            return found(BEYOND);
        }
        Sheet source = sheets[s];
        Sheet target = sheets[t];
        if (source.isMissing() || target.isMissing()) {
            return found(MISSING);
        }
        if (source.bits != target.bits) {
            return found(KIND);
        }
        if (!source.has(from, n) || !target.has(to, n)) {
            return found(BEYOND);
        }
        System.arraycopy(source.numbers, from, target.numbers, to, n);
        return n;
    }

    public int lays(int s) {
        if (!isSheet(s)) {
            return found(BEYOND);
        }
        Sheet sheet = sheets[s];
        if (sheet.isMissing()) {
            return found(MISSING);
        }
        int came = 0;
        int most = Math.min(sheet.length, here.children);
        for (int i = 0; i < most; i++) {
            long number = sheet.numbers[i];
            if (number >= 0 && number <= Ground.MOST_HEIGHT) {
                here.heights[i] = (int) number;
                came++;
            }
        }
        return came;
    }

    public int book(int s, int child) {
        if (!isSheet(s)) {
            return found(BEYOND);
        }
        Sheet sheet = sheets[s];
        if (sheet.isMissing()) {
            return found(MISSING);
        }
        if (!isChild(child)) {
            return found(BEYOND);
        }
        tryAsItIs();
        for (int i = 0; i < sheet.length; i++) {
            sheet.store(i, trial.heights[child]);
            trial.goMinute();
        }
        return sheet.length;
    }

    public int read(int s, int child, int other) {
        if (!isSheet(s)) {
            return found(BEYOND);
        }
        Sheet sheet = sheets[s];
        if (sheet.isMissing()) {
            return found(MISSING);
        }
        if (!areTwo(child, other)) {
            return found(BEYOND);
        }
        int pairs = 0;
        for (int own = 0; own < Ground.KINDS; own++) {
            for (int others = 0; others < Ground.KINDS; others++) {
                tryAsItIs();
                trial.kinds[child] = own;
                trial.kinds[other] = others;
                if (wentAsBooked(sheet, child)) {
                    pairs++;
                }
            }
        }
        return pairs;
    }

    // ---- images

    public int image() {
        kept.becomeLike(here);
        isKept = true;
        return 1;
    }

    public int undo() {
        if (!isKept) {
            return found(NONE);
        }
        here.becomeLike(kept);
        return here.children;
    }

    public int tear() {
        int was = asNumber(isKept);
        isKept = false;
        return was;
    }

    public int count(int what) {
        switch (what) {
            case 0:
                return here.children;
            case 1:
                return tape.length;
            case 2:
                return sumOf(here.purses);
            case 3:
                return MIDDLE_OF_OWES + sumOf(here.debts);
            default:
                return found(BEYOND);
        }
    }

    public int status(int which) {
        if (which == -1) {
            int all = 0;
            for (int times : findings) {
                all += times;
            }
            return all;
        }
        if (!within(which, 0, FINDINGS - 1)) {
            return found(BEYOND);
        }
        return findings[which];
    }

    // ---- helpers

    private int found(int finding) {
        findings[finding]++;
        return FIRST_FINDING - finding;
    }

    private static boolean within(int v, int least, int most) {
        return v >= least && v <= most;
    }

    private static int asNumber(boolean b) {
        return b ? 1 : 0;
    }

    private static boolean isKind(int kind) {
        return within(kind, 0, Ground.KINDS - 1);
    }

    private static boolean isSheet(int s) {
        return within(s, 0, SHEETS - 1);
    }

    private boolean isChild(int child) {
        return within(child, 0, here.children - 1);
    }

    private boolean areTwo(int child, int other) {
        return isChild(child) && isChild(other) && child != other;
    }

    private int sumOf(int[] row) {
        int sum = 0;
        for (int i = 0; i < here.children; i++) {
            sum += row[i];
        }
        return sum;
    }

    private int put(int[] row, int child, int v, int least, int most) {
        if (!within(v, least, most)) {
            return found(BEYOND);
        }
        int was = row[child];
        row[child] = v;
        return was;
    }

    private void tryAsItIs() {
        trial.becomeLike(here);
    }

    private int heightLater(int child, int n) {
        trial.goOn(n);
        return trial.heights[child];
    }

    private int firstMinuteWithin(int child, int least, int most) {
        tryAsItIs();
        for (int gone = 0; gone <= MOST_ON; gone++) {
            if (within(trial.heights[child], least, most)) {
                return gone;
            }
            trial.goMinute();
        }
        return found(NONE);
    }

    private boolean wentAsBooked(Sheet sheet, int child) {
        for (int i = 0; i < sheet.length; i++) {
            if (sheet.numbers[i] != trial.heights[child]) {
                return false;
            }
            trial.goMinute();
        }
        return true;
    }

    /** MINUTE, DARK and the CHILDREN: all that an image keeps. */
    private static final class Ground {
        static final int CHILD = 0;
        static final int BIG = 1;
        static final int SMALL = 2;
        static final int KIND_ONE = 3;
        static final int QUEEN = 4;
        static final int BABY = 5;
        static final int KINDS = 6;

        static final int MOST_CHILDREN = 8;
        static final int MOST_HEIGHT = 200;
        static final int MOST_MARBLES = 99;
        static final int MOST_OWES = 9999;
        static final int MOST_DARK = 59;

        private static final int MINUTES_A_DAY = 60;
        private static final int DAYS_A_WEEK = 7;
        private static final int SATURDAY = 5;
        private static final int BABY_IS_CONTENT = 60;

        /** The KIND that each one stands under; -1 for the topmost. */
        private static final int[] KIND_ABOVE = {-1, CHILD, CHILD, CHILD, BIG, SMALL};

        int minute;
        int darkFrom;
        int children;
        final int[] kinds;
        final int[] heights;
        final int[] purses;
        final int[] debts;

        Ground() {
            minute = 0;
            darkFrom = 50;
            children = 0;
            kinds = new int[MOST_CHILDREN];
            heights = new int[MOST_CHILDREN];
            purses = new int[MOST_CHILDREN];
            debts = new int[MOST_CHILDREN];
        }

        void becomeLike(Ground that) {
            minute = that.minute;
            darkFrom = that.darkFrom;
            children = that.children;
            System.arraycopy(that.kinds, 0, kinds, 0, children);
            System.arraycopy(that.heights, 0, heights, 0, children);
            System.arraycopy(that.purses, 0, purses, 0, children);
            System.arraycopy(that.debts, 0, debts, 0, children);
        }

        static boolean isOfKind(int kind, int wanted) {
            int at = kind;
            for (int up = 0; up < KINDS && at >= 0 && at < KINDS; up++) {
                if (at == wanted) {
                    return true;
                }
                at = KIND_ABOVE[at];
            }
            return false;
        }

        boolean hasRoom() {
            return children < MOST_CHILDREN;
        }

        /** Callers ask hasRoom() first. */
        int addOne(int kind) {
            int number = children;
            kinds[number] = kind;
            heights[number] = 50;
            purses[number] = 5;
            debts[number] = 0;
            children++;
            return number;
        }

        void shove(int child, int by) {
            heights[child] = Math.min(heights[child] + by, MOST_HEIGHT);
        }

        void exchange(int one, int other) {
            exchangeIn(kinds, one, other);
            exchangeIn(heights, one, other);
            exchangeIn(purses, one, other);
            exchangeIn(debts, one, other);
        }

        private static void exchangeIn(int[] row, int one, int other) {
            int was = row[one];
            row[one] = row[other];
            row[other] = was;
        }

        int minuteOfDay() {
            return minute % MINUTES_A_DAY;
        }

        boolean isDusk() {
            return minuteOfDay() >= darkFrom;
        }

        boolean isSaturday() {
            return minute / MINUTES_A_DAY % DAYS_A_WEEK == SATURDAY;
        }

        /** The first with the most of a row; -1 if nobody is there. */
        int firstOfMost(int[] row) {
            int best = -1;
            for (int i = 0; i < children; i++) {
                if (best < 0 || row[i] > row[best]) {
                    best = i;
                }
            }
            return best;
        }

        int highest() {
            return firstOfMost(heights);
        }

        private int lowest() {
            int best = -1;
            for (int i = 0; i < children; i++) {
                if (best < 0 || heights[i] < heights[best]) {
                    best = i;
                }
            }
            return best;
        }

        int apart() {
            int high = highest();
            int low = lowest();
            return high < 0 || low < 0 ? 0 : heights[high] - heights[low];
        }

        boolean isLevel() {
            return apart() < 2;
        }

        int inTheDust() {
            int set = 0;
            for (int i = 0; i < children; i++) {
                if (heights[i] == 0) {
                    set |= 1 << i;
                }
            }
            return set;
        }

        private int nextOf(int child) {
            return child + 1 < children ? child + 1 : 0;
        }

        int wantsOf(int child) {
            if (children < 2) {
                return 0;
            }
            int asChild = 2;
            int asBig = asChild + 3;
            int asSmall = asChild - 1;
            switch (kinds[child]) {
                case BIG:
                    return asBig;
                case SMALL:
                    return asSmall;
                case KIND_ONE:
                    return heights[nextOf(child)] < heights[child] ? -3 : 0;
                case QUEEN:
                    return isSaturday() ? 2 * asBig : asBig;
                case BABY:
                    return heights[child] > BABY_IS_CONTENT ? 0 : asSmall;
                default:
                    return asChild;
            }
        }

        int paysOf(int child) {
            return kinds[child] == SMALL ? 1 : 0;
        }

        int yieldsOf(int child) {
            int asChild = 4;
            int asBig = asChild / 2;
            int asSmall = asChild + 4;
            switch (kinds[child]) {
                case BIG:
                    return asBig;
                case SMALL:
                case BABY:
                    return asSmall;
                case KIND_ONE:
                    return heights[child];
                case QUEEN:
                    return isSaturday() ? 0 : asBig;
                default:
                    return asChild;
            }
        }

        void goOn(int n) {
            for (int i = 0; i < n; i++) {
                goMinute();
            }
        }

        void goMinute() {
            if (isDusk()) {
                getMoreLevel();
            } else {
                for (int child = 0; child < children; child++) {
                    deal(child);
                }
            }
            minute++;
        }

        private void getMoreLevel() {
            int high = highest();
            int low = lowest();
            if (high >= 0 && low >= 0 && heights[high] - heights[low] >= 2) {
                carry(high, low, 1);
            }
        }

        /** One alone WANTS nothing, so that there is a next one where it is used. */
        private void deal(int child) {
            int wants = wantsOf(child);
            int next = nextOf(child);
            if (wants > 0 && purses[child] >= paysOf(child)) {
                int had = carry(next, child, Math.min(wants, yieldsOf(next)));
                if (had > 0) {
                    payFor(child, next);
                }
            } else if (wants < 0) {
                carry(child, next, -wants);
            }
        }

        /** HAVING, GIVING and DUSK are the same but for who asks. */
        private int carry(int from, int to, int atMost) {
            int n = Math.min(atMost, Math.min(heights[from], MOST_HEIGHT - heights[to]));
            heights[from] -= n;
            heights[to] += n;
            debts[from] = Math.max(debts[from] - n, -MOST_OWES);
            debts[to] = Math.min(debts[to] + n, MOST_OWES);
            return n;
        }

        private void payFor(int child, int next) {
            int price = paysOf(child);
            purses[child] -= price;
            purses[next] = Math.min(purses[next] + price, MOST_MARBLES);
        }
    }

    /** THE TAPE, and the reading of it as THE TEXT of a GROUND. */
    private static final class Tape {
        private static final int MOST_BYTES = 120;
        private static final int MOST_NUMBER = 999;

        private static final int END = 0;
        private static final int WORD = 1;
        private static final int NUMBER = 2;
        private static final int SEMICOLON = 3;
        private static final int NO_TOKEN = 4;

        private final byte[] bytes;
        int length;

        /** The TOKEN that is looked at: what it is, from where, to before where. */
        private int token;
        private int start;
        private int end;
        private int number;

        Tape() {
            bytes = new byte[MOST_BYTES];
            length = 0;
            token = END;
            start = 0;
            end = 0;
            number = 0;
        }

        boolean hasRoomFor(int n) {
            return length <= MOST_BYTES - n;
        }

        /** Callers ask hasRoomFor() first. */
        void append(byte b) {
            bytes[length] = b;
            length++;
        }

        /** How many ITEMS came to the ground, or -1 less the place of the FAULT (the ground is spoilt then). */
        int tellTo(Ground ground) {
            end = 0;
            advance();
            for (int items = 1; items <= MOST_BYTES; items++) {
                if (!isItemTold(ground)) {
                    return -1 - start;
                }
                if (token == END) {
                    return items;
                }
                if (token != SEMICOLON) {
                    return -1 - start;
                }
                advance();
            }
            return -1 - start;
        }

        /** Leaves the TOKEN behind the ITEM, or the one that can't stand there. */
        private boolean isItemTold(Ground ground) {
            if (isWord("push")) {
                return isPushTold(ground);
            }
            if (isWord("dark")) {
                return isDarkTold(ground);
            }
            int kind = kindNamed();
            return kind >= 0 && ground.hasRoom() && isChildTold(ground, kind);
        }

        private boolean isPushTold(Ground ground) {
            advance();
            if (!isNumberWithin(0, ground.children - 1)) {
                return false;
            }
            int child = number;
            advance();
            if (!isNumberWithin(1, MOST_PUSH)) {
                return false;
            }
            ground.shove(child, number);
            advance();
            return true;
        }

        private boolean isDarkTold(Ground ground) {
            advance();
            if (!isNumberWithin(0, Ground.MOST_DARK)) {
                return false;
            }
            ground.darkFrom = number;
            advance();
            return true;
        }

        private boolean isChildTold(Ground ground, int kind) {
            int child = ground.addOne(kind);
            advance();
            return isPartTold("high", Ground.MOST_HEIGHT, ground.heights, child)
                && isPartTold("marbles", Ground.MOST_MARBLES, ground.purses, child);
        }

        private boolean isPartTold(String name, int most, int[] row, int child) {
            if (!isWord(name)) {
                return true;
            }
            advance();
            if (!isNumberWithin(0, most)) {
                return false;
            }
            row[child] = number;
            advance();
            return true;
        }

        private boolean isNumberWithin(int least, int most) {
            return token == NUMBER && number >= least && number <= most;
        }

        private int kindNamed() {
            for (int kind = 0; kind < Ground.KINDS; kind++) {
                if (isWord(nameOf(kind))) {
                    return kind;
                }
            }
            return -1;
        }

        private static String nameOf(int kind) {
            switch (kind) {
                case Ground.BIG:
                    return "big";
                case Ground.SMALL:
                    return "small";
                case Ground.KIND_ONE:
                    return "kind";
                case Ground.QUEEN:
                    return "queen";
                case Ground.BABY:
                    return "baby";
                default:
                    return "child";
            }
        }

        private boolean isWord(String word) {
            if (token != WORD || end - start != word.length()) {
                return false;
            }
            for (int i = 0; i < word.length(); i++) {
                if (bytes[start + i] != word.charAt(i)) {
                    return false;
                }
            }
            return true;
        }

        private void advance() {
            start = end;
            while (start < length && bytes[start] == ' ') {
                start++;
            }
            end = start;
            number = 0;
            if (start >= length) {
                token = END;
            } else if (isLetter(start)) {
                token = WORD;
                while (end < length && isLetter(end)) {
                    end++;
                }
            } else if (isDigit(start)) {
                token = NUMBER;
                while (end < length && isDigit(end)) {
                    // one above MOST_NUMBER stands for all that are too great, so that none wraps around
                    number = Math.min(number * 10 + (bytes[end] - '0'), MOST_NUMBER + 1);
                    end++;
                }
            } else {
                token = bytes[start] == ';' ? SEMICOLON : NO_TOKEN;
                end++;
            }
        }

        private boolean isLetter(int place) {
            return bytes[place] >= 'a' && bytes[place] <= 'z';
        }

        private boolean isDigit(int place) {
            return bytes[place] >= '0' && bytes[place] <= '9';
        }
    }

    /** A row of numbers of some bits (0 bits: it is MISSING), each held as the long of its value. */
    private static final class Sheet {
        static final int MOST_NUMBERS = 40;

        final long[] numbers;
        int bits;
        int length;

        Sheet() {
            numbers = new long[MOST_NUMBERS];
            bits = 0;
            length = 0;
        }

        static boolean areBits(int bits) {
            return bits == 0 || bits == 8 || bits == 16 || bits == 64;
        }

        boolean isMissing() {
            return bits == 0;
        }

        void renew(int newBits, int n) {
            bits = newBits;
            length = newBits == 0 ? 0 : n;
            Arrays.fill(numbers, 0L);
        }

        boolean has(int from, int n) {
            return from >= 0 && n >= 0 && from <= length - n;
        }

        void store(int i, long v) {
            if (bits == 8) {
                numbers[i] = (byte) v;
            } else if (bits == 16) {
                numbers[i] = (short) v;
            } else {
                numbers[i] = v;
            }
        }
    }
}
