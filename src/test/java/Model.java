import java.util.ArrayList;
import java.util.List;
import java.util.regex.Matcher;
import java.util.regex.Pattern;

/** The document told a second time, in another way, for ModelTest to compare with: slow, with objects and lists. */
final class Model {
    private static final String[] NAMES = {"child", "big", "small", "kind", "queen", "baby"};

    /** A finding is thrown here, so that each act reads as a list of what it asks. */
    private static final class Finding extends RuntimeException {
        private static final long serialVersionUID = 1L;
        final int which;

        Finding(int which) {
            super(null, null, false, false);
            this.which = which;
        }
    }

    private static class Kid {
        int height = 50;
        int marbles = 5;
        int owes = 0;

        int number() {
            return 0;
        }

        int wants(Kid next, boolean saturday) {
            return 2;
        }

        int pays() {
            return 0;
        }

        int yields(boolean saturday) {
            return 4;
        }

        Kid like(Kid that) {
            height = that.height;
            marbles = that.marbles;
            owes = that.owes;
            return this;
        }
    }

    private static class Big extends Kid {
        @Override int number() {
            return 1;
        }

        @Override int wants(Kid next, boolean saturday) {
            return super.wants(next, saturday) + 3;
        }

        @Override int yields(boolean saturday) {
            return super.yields(saturday) / 2;
        }
    }

    private static class Small extends Kid {
        @Override int number() {
            return 2;
        }

        @Override int wants(Kid next, boolean saturday) {
            return super.wants(next, saturday) - 1;
        }

        @Override int pays() {
            return 1;
        }

        @Override int yields(boolean saturday) {
            return super.yields(saturday) + 4;
        }
    }

    private static final class KindOne extends Kid {
        @Override int number() {
            return 3;
        }

        @Override int wants(Kid next, boolean saturday) {
            return next.height < height ? -3 : 0;
        }

        @Override int yields(boolean saturday) {
            return height;
        }
    }

    private static final class Queen extends Big {
        @Override int number() {
            return 4;
        }

        @Override int wants(Kid next, boolean saturday) {
            return super.wants(next, saturday) * (saturday ? 2 : 1);
        }

        @Override int yields(boolean saturday) {
            return saturday ? 0 : super.yields(saturday);
        }
    }

    private static final class Baby extends Small {
        @Override int number() {
            return 5;
        }

        @Override int wants(Kid next, boolean saturday) {
            return height > 60 ? 0 : super.wants(next, saturday);
        }

        @Override int pays() {
            return super.pays() - 1;
        }
    }

    private static Kid ofKind(int kind) {
        Kid[] all = {new Kid(), new Big(), new Small(), new KindOne(), new Queen(), new Baby()};
        return all[kind];
    }

    private static final class Scene {
        int minute = 0;
        int dark = 50;
        List<Kid> kids = new ArrayList<>();

        Scene twin() {
            Scene twin = new Scene();
            twin.minute = minute;
            twin.dark = dark;
            for (Kid kid : kids) {
                twin.kids.add(ofKind(kid.number()).like(kid));
            }
            return twin;
        }

        Scene later(int n) {
            Scene twin = twin();
            for (int i = 0; i < n; i++) {
                twin.minute();
            }
            return twin;
        }

        boolean dusk() {
            return minute % 60 >= dark;
        }

        boolean saturday() {
            return (minute / 60) % 7 == 5;
        }

        Kid next(int i) {
            return kids.get((i + 1) % kids.size());
        }

        int highest() {
            int best = -1;
            for (int i = kids.size() - 1; i >= 0; i--) {
                if (best < 0 || kids.get(i).height >= kids.get(best).height) {
                    best = i;
                }
            }
            return best;
        }

        int lowest() {
            int best = -1;
            for (int i = kids.size() - 1; i >= 0; i--) {
                if (best < 0 || kids.get(i).height <= kids.get(best).height) {
                    best = i;
                }
            }
            return best;
        }

        int spread() {
            return kids.isEmpty() ? 0 : kids.get(highest()).height - kids.get(lowest()).height;
        }

        static int hold(int owes) {
            return owes > 9999 ? 9999 : owes < -9999 ? -9999 : owes;
        }

        static int have(Kid who, Kid from, int n) {
            int had = n;
            while (had > 0 && (had > from.height || who.height + had > 200)) {
                had--;
            }
            who.height += had;
            from.height -= had;
            who.owes = hold(who.owes + had);
            from.owes = hold(from.owes - had);
            return had;
        }

        void minute() {
            if (dusk()) {
                if (spread() >= 2) {
                    have(kids.get(lowest()), kids.get(highest()), 1);
                }
            } else if (kids.size() > 1) {
                for (int i = 0; i < kids.size(); i++) {
                    Kid one = kids.get(i);
                    Kid next = next(i);
                    int wants = one.wants(next, saturday());
                    if (wants < 0) {
                        have(next, one, -wants);
                    }
                    if (wants > 0 && one.marbles >= one.pays()) {
                        if (have(one, next, Math.min(wants, next.yields(saturday()))) > 0) {
                            one.marbles -= one.pays();
                            next.marbles = Math.min(99, next.marbles + one.pays());
                        }
                    }
                }
            }
            minute++;
        }

        void turn(int child, int kind) {
            kids.set(child, ofKind(kind).like(kids.get(child)));
        }

        void push(int child, int v) {
            kids.get(child).height = Math.min(200, kids.get(child).height + v);
        }

        void swap(int one, int other) {
            Kid was = kids.get(one);
            kids.set(one, kids.get(other));
            kids.set(other, was);
        }
    }

    private Scene now = new Scene();
    private Scene kept = null;
    private final StringBuilder tape = new StringBuilder();
    private final int[] bits = new int[4];
    private final long[][] sheets = new long[4][];
    private final int[] found = new int[7];

    /** One call of the face by its name: the answer, with findings counted. */
    long call(String name, long... a) {
        try {
            return act(name, a);
        } catch (Finding finding) {
            found[finding.which]++;
            return -1000000001L - finding.which;
        }
    }

    private static void ask(boolean good, int finding) {
        if (!good) {
            throw new Finding(finding);
        }
    }

    private static void among(long v, long least, long most) {
        ask(v >= least && v <= most, 0);
    }

    private Kid kid(long child) {
        among(child, 0, now.kids.size() - 1);
        return now.kids.get((int) child);
    }

    private long[] row(long s) {
        among(s, 0, 3);
        ask(sheets[(int) s] != null, 5);
        return sheets[(int) s];
    }

    private long cut(long s, long v) {
        int drop = 64 - bits[(int) s];
        return v << drop >> drop;
    }

    private long act(String name, long[] a) {
        switch (name) {
            case "dark":
            case "now":
            case "child":
            case "of":
            case "set":
            case "turn":
            case "as":
            case "push":
            case "swap":
                return actOnChildren(name, a);
            case "minutes":
            case "on":
            case "owes":
            case "level":
            case "comes":
            case "dust":
                return actOnMinutes(name, a);
            case "place":
            case "kind":
            case "marbles":
            case "night":
            case "enough":
            case "whom":
            case "debtor":
                return actOnBest(name, a);
            case "feed":
            case "wipe":
            case "ground":
                return actOnText(name, a);
            case "sheet":
            case "write":
            case "copy":
            case "lays":
            case "book":
            case "read":
                return actOnSheets(name, a);
            default:
                return actOnImages(name, a);
        }
    }

    private long actOnChildren(String name, long[] a) {
        switch (name) {
            case "dark": {
                among(a[0], 0, 59);
                int was = now.dark;
                now.dark = (int) a[0];
                return was;
            }
            case "now":
                return tellNow(a[0]);
            case "child":
                among(a[0], 0, 5);
                ask(now.kids.size() < 8, 1);
                now.kids.add(ofKind((int) a[0]));
                return now.kids.size() - 1;
            case "of":
                return tellOf(a);
            case "set": {
                Kid kid = kid(a[0]);
                among(a[1], 1, 3);
                int v = (int) a[2];
                int was = a[1] == 1 ? kid.height : a[1] == 2 ? kid.marbles : kid.owes;
                if (a[1] == 1) {
                    among(v, 0, 200);
                    kid.height = v;
                } else if (a[1] == 2) {
                    among(v, 0, 99);
                    kid.marbles = v;
                } else {
                    among(v, -9999, 9999);
                    kid.owes = v;
                }
                return was;
            }
            case "turn": {
                int was = kid(a[0]).number();
                among(a[1], 0, 5);
                now.turn((int) a[0], (int) a[1]);
                return was;
            }
            case "as": {
                Kid kid = kid(a[0]);
                among(a[1], 0, 5);
                ask(ofKind((int) a[1]).getClass().isInstance(kid), 2);
                return kid.height;
            }
            case "push":
                kid(a[0]);
                among(a[1], 1, 99);
                now.push((int) a[0], (int) a[1]);
                return kid(a[0]).height;
            default:
                kid(a[0]);
                kid(a[1]);
                ask(a[0] != a[1], 0);
                now.swap((int) a[0], (int) a[1]);
                return 1;
        }
    }

    private long tellNow(long what) {
        among(what, 0, 7);
        int together = 0;
        int dust = 0;
        for (int i = 0; i < now.kids.size(); i++) {
            together += now.kids.get(i).height;
            dust += now.kids.get(i).height == 0 ? 1 << i : 0;
        }
        int[] all = {now.minute, now.minute % 60, now.dusk() ? 1 : 0, now.saturday() ? 1 : 0, together, now.spread() < 2 ? 1 : 0, dust, now.highest()};
        return all[(int) what];
    }

    private long tellOf(long[] a) {
        Kid kid = kid(a[0]);
        among(a[1], 0, 6);
        int wants = now.kids.size() < 2 ? 0 : kid.wants(now.next((int) a[0]), now.saturday());
        int[] all = {kid.number(), kid.height, kid.marbles, 100000 + kid.owes, 100 + wants, kid.pays(), kid.yields(now.saturday())};
        return all[(int) a[1]];
    }

    private long actOnMinutes(String name, long[] a) {
        switch (name) {
            case "minutes":
                among(a[0], 1, 200);
                ask(now.minute + a[0] <= 99999, 4);
                now = now.later((int) a[0]);
                return now.highest();
            case "on": {
                kid(a[0]);
                among(a[1], 0, 400);
                among(a[2], 0, 1);
                Kid then = now.later((int) a[1]).kids.get((int) a[0]);
                return a[2] == 0 ? then.height : then.marbles;
            }
            case "owes":
                kid(a[0]);
                among(a[1], 0, 400);
                return now.later((int) a[1]).kids.get((int) a[0]).owes;
            default:
                return first(name, a);
        }
    }

    private long first(String name, long[] a) {
        if (!name.equals("level")) {
            kid(a[0]);
        }
        if (name.equals("comes")) {
            among(a[1], 0, 200);
        }
        Scene scene = now.twin();
        for (int n = 0; n <= 400; n++) {
            boolean is = name.equals("level") ? scene.spread() < 2
                : name.equals("comes") ? scene.kids.get((int) a[0]).height >= a[1]
                : scene.kids.get((int) a[0]).height == 0;
            if (is) {
                return n;
            }
            scene.minute();
        }
        throw new Finding(3);
    }

    private long actOnBest(String name, long[] a) {
        switch (name) {
            case "place": {
                kid(a[0]);
                among(a[1], 1, 100);
                int child = (int) a[0];
                int asItIs = now.later((int) a[1]).kids.get(child).height;
                int[] then = new int[now.kids.size()];
                for (int other = 0; other < then.length; other++) {
                    Scene scene = now.twin();
                    scene.swap(child, other);
                    then[other] = other == child ? -1 : scene.later((int) a[1]).kids.get(other).height;
                }
                int best = firstOfMost(then);
                ask(then[best] > asItIs, 3);
                return best;
            }
            case "kind": {
                kid(a[0]);
                among(a[1], 1, 100);
                int[] then = new int[6];
                for (int kind = 0; kind < 6; kind++) {
                    Scene scene = now.twin();
                    scene.turn((int) a[0], kind);
                    then[kind] = scene.later((int) a[1]).kids.get((int) a[0]).height;
                }
                return firstOfMost(then);
            }
            case "marbles":
                kid(a[0]);
                among(a[1], 1, 100);
                among(a[2], 0, 200);
                for (int held = 0; held < 100; held++) {
                    Scene scene = now.twin();
                    scene.kids.get((int) a[0]).marbles = held;
                    if (scene.later((int) a[1]).kids.get((int) a[0]).height >= a[2]) {
                        return held;
                    }
                }
                throw new Finding(3);
            case "night": {
                among(a[0], 1, 120);
                int[] then = new int[60];
                for (int dark = 0; dark < 60; dark++) {
                    Scene scene = now.twin();
                    scene.dark = dark;
                    then[dark] = -scene.later((int) a[0]).spread();
                }
                return firstOfMost(then);
            }
            case "enough":
                kid(a[0]);
                among(a[1], 0, 100);
                among(a[2], 0, 200);
                for (int v = 0; v < 100; v++) {
                    Scene scene = now.twin();
                    scene.push((int) a[0], v);
                    if (scene.later((int) a[1]).kids.get((int) a[0]).height >= a[2]) {
                        return v;
                    }
                }
                throw new Finding(3);
            case "whom": {
                among(a[0], 1, 99);
                among(a[1], 0, 100);
                ask(!now.kids.isEmpty(), 3);
                int[] then = new int[now.kids.size()];
                for (int child = 0; child < then.length; child++) {
                    Scene scene = now.twin();
                    scene.push(child, (int) a[0]);
                    then[child] = scene.later((int) a[1]).kids.get(child).height;
                }
                return firstOfMost(then);
            }
            default: {
                among(a[0], 0, 400);
                ask(!now.kids.isEmpty(), 3);
                Scene scene = now.later((int) a[0]);
                int[] then = new int[now.kids.size()];
                for (int child = 0; child < then.length; child++) {
                    then[child] = scene.kids.get(child).owes;
                }
                return firstOfMost(then);
            }
        }
    }

    private static int firstOfMost(int[] row) {
        int best = 0;
        for (int i = 0; i < row.length; i++) {
            best = row[i] > row[best] ? i : best;
        }
        return best;
    }

    private long actOnText(String name, long[] a) {
        if (name.equals("feed")) {
            among(a[1], 1, 4);
            ask(tape.length() + a[1] <= 120, 1);
            for (int i = (int) a[1] - 1; i >= 0; i--) {
                tape.append((char) (a[0] >>> 8 * i & 255));
            }
            return tape.length();
        }
        String text = tape.toString();
        tape.setLength(0);
        if (name.equals("wipe")) {
            return text.length();
        }
        return tellText(text);
    }

    /** The TOKENS as a list, each with its place, and an empty one at the end. */
    private static List<String> tokens(String text, List<Integer> places) {
        List<String> tokens = new ArrayList<>();
        Matcher m = Pattern.compile("[a-z]+|[0-9]+|[^ ]", Pattern.DOTALL).matcher(text);
        while (m.find()) {
            tokens.add(m.group());
            places.add(m.start());
        }
        tokens.add("");
        places.add(text.length());
        return tokens;
    }

    private static boolean isNumber(String token, int least, int most) {
        if (!token.matches("[0-9]+")) {
            return false;
        }
        java.math.BigInteger v = new java.math.BigInteger(token);
        return v.compareTo(java.math.BigInteger.valueOf(least)) >= 0 && v.compareTo(java.math.BigInteger.valueOf(most)) <= 0;
    }

    private long tellText(String text) {
        List<Integer> places = new ArrayList<>();
        List<String> tokens = tokens(text, places);
        Scene scene = now.twin();
        int items = 0;
        int at = 0;
        while (true) {
            int behind = item(scene, tokens, at);
            if (behind < 0) {
                return -1 - places.get(-1 - behind);
            }
            items++;
            at = behind;
            if (tokens.get(at).isEmpty()) {
                now = scene;
                return items;
            }
            if (!tokens.get(at).equals(";")) {
                return -1 - places.get(at);
            }
            at++;
        }
    }

    /** The number of the TOKEN behind the ITEM, or -1 less that of the one that can't stand there. */
    private static int item(Scene scene, List<String> tokens, int from) {
        int at = from;
        String word = tokens.get(at);
        int kids = scene.kids.size();
        if (word.equals("push")) {
            if (!isNumber(tokens.get(at + 1), 0, kids - 1)) {
                return -1 - (at + 1);
            }
            if (!isNumber(tokens.get(at + 2), 1, 99)) {
                return -1 - (at + 2);
            }
            scene.push(Integer.parseInt(tokens.get(at + 1)), Integer.parseInt(tokens.get(at + 2)));
            return at + 3;
        }
        if (word.equals("dark")) {
            if (!isNumber(tokens.get(at + 1), 0, 59)) {
                return -1 - (at + 1);
            }
            scene.dark = Integer.parseInt(tokens.get(at + 1));
            return at + 2;
        }
        int kind = List.of(NAMES).indexOf(word);
        if (kind < 0 || kids == 8) {
            return -1 - at;
        }
        Kid kid = ofKind(kind);
        scene.kids.add(kid);
        at++;
        if (tokens.get(at).equals("high")) {
            if (!isNumber(tokens.get(at + 1), 0, 200)) {
                return -1 - (at + 1);
            }
            kid.height = Integer.parseInt(tokens.get(at + 1));
            at += 2;
        }
        if (tokens.get(at).equals("marbles")) {
            if (!isNumber(tokens.get(at + 1), 0, 99)) {
                return -1 - (at + 1);
            }
            kid.marbles = Integer.parseInt(tokens.get(at + 1));
            at += 2;
        }
        return at;
    }

    private long actOnSheets(String name, long[] a) {
        switch (name) {
            case "sheet": {
                among(a[0], 0, 3);
                ask(a[1] == 0 || a[1] == 8 || a[1] == 16 || a[1] == 64, 0);
                ask(a[2] >= 0, 6);
                ask(a[2] <= 40, 0);
                bits[(int) a[0]] = (int) a[1];
                sheets[(int) a[0]] = a[1] == 0 ? null : new long[(int) a[2]];
                return a[1] == 0 ? 0 : a[2];
            }
            case "write": {
                long[] row = row(a[0]);
                among(a[1], 0, row.length - 1);
                long was = row[(int) a[1]];
                row[(int) a[1]] = cut(a[0], a[2]);
                return was;
            }
            case "copy": {
                among(a[0], 0, 3);
                among(a[2], 0, 3);
                long[] source = row(a[0]);
                long[] target = row(a[2]);
                ask(bits[(int) a[0]] == bits[(int) a[2]], 2);
                ask(a[1] >= 0 && a[3] >= 0 && a[4] >= 0, 0);
                ask(a[1] + a[4] <= source.length && a[3] + a[4] <= target.length, 0);
                long[] were = source.clone();
                for (int i = 0; i < a[4]; i++) {
                    target[(int) a[3] + i] = were[(int) a[1] + i];
                }
                return a[4];
            }
            case "lays": {
                long[] row = row(a[0]);
                int came = 0;
                for (int i = 0; i < row.length; i++) {
                    if (i < now.kids.size() && row[i] >= 0 && row[i] <= 200) {
                        now.kids.get(i).height = (int) row[i];
                        came++;
                    }
                }
                return came;
            }
            case "book": {
                long[] row = row(a[0]);
                kid(a[1]);
                for (int i = 0; i < row.length; i++) {
                    row[i] = cut(a[0], now.later(i).kids.get((int) a[1]).height);
                }
                return row.length;
            }
            default:
                return pairs(a);
        }
    }

    private long pairs(long[] a) {
        long[] row = row(a[0]);
        kid(a[1]);
        kid(a[2]);
        ask(a[1] != a[2], 0);
        int pairs = 0;
        for (int pair = 0; pair < 36; pair++) {
            Scene scene = now.twin();
            scene.turn((int) a[1], pair / 6);
            scene.turn((int) a[2], pair % 6);
            boolean same = true;
            for (long number : row) {
                same &= number == scene.kids.get((int) a[1]).height;
                scene.minute();
            }
            pairs += same ? 1 : 0;
        }
        return pairs;
    }

    private long actOnImages(String name, long[] a) {
        switch (name) {
            case "image":
                kept = now.twin();
                return 1;
            case "undo":
                ask(kept != null, 3);
                now = kept.twin();
                return now.kids.size();
            case "tear": {
                int was = kept == null ? 0 : 1;
                kept = null;
                return was;
            }
            case "count": {
                among(a[0], 0, 3);
                int marbles = 0;
                int owes = 0;
                for (Kid kid : now.kids) {
                    marbles += kid.marbles;
                    owes += kid.owes;
                }
                int[] all = {now.kids.size(), tape.length(), marbles, 100000 + owes};
                return all[(int) a[0]];
            }
            default: {
                among(a[0], -1, 6);
                int all = 0;
                for (int times : found) {
                    all += times;
                }
                return a[0] == -1 ? all : found[(int) a[0]];
            }
        }
    }
}
