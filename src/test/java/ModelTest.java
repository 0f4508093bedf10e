import java.util.ArrayList;
import java.util.Arrays;
import java.util.List;
import java.util.Random;
import java.util.regex.Matcher;
import java.util.regex.Pattern;

/**
 * Long runs of calls, told by a fixed seed, on the class and on a second, slow reading of the document: hands are
 * Java classes with Java's own super, days go one by one, a text is looked at by a regular expression.
 */
public final class ModelTest {
    private static final long NO = Long.MIN_VALUE;
    private static final int RUNS = 900;
    private static final int CALLS = 500;

    // ---- the second reading

    private static class Hand implements Cloneable {
        int i, v, shook;
        int[] lines = new int[3];
        int[] row = new int[4];
        List<Integer> trace;

        int kind() { return 0; }
        int fades(int day) { return 1; }
        boolean prints() { return true; }

        int fortune(Model m) {
            int sum = 0;
            for (int line = 0; line < 3; line++) sum += m.worth(this, line);
            return sum;
        }

        int lies(int x) { trace.add(10); return x + i; }
        int reads(int x) { trace.add(11); return lies(x) - v; }
        int tells(int x) { trace.add(12); return reads(x) * 2; }

        Hand copy() {
            try {
                Hand copy = (Hand) clone();
                copy.lines = lines.clone();
                copy.row = row.clone();
                return copy;
            } catch (CloneNotSupportedException e) {
                throw new IllegalStateException(e);
            }
        }
    }

    private static class Soft extends Hand {
        @Override int kind() { return 1; }
        @Override int fades(int day) { return 2; }
        @Override int fortune(Model m) { return super.fortune(m) + v; }
        @Override int reads(int x) { trace.add(20); return super.reads(x) ^ 6; }
    }

    private static class Rough extends Hand {
        @Override int kind() { return 2; }
        @Override int fades(int day) { return v % 2; }
        @Override int lies(int x) { trace.add(30); return super.lies(x * 3); }
    }

    private static class Gloved extends Hand {
        @Override int kind() { return 3; }
        @Override int fades(int day) { return day % 2 == 1 ? 1 : 0; }
        @Override boolean prints() { return false; }
        @Override int tells(int x) { trace.add(40); return super.tells(x) + reads(1); }
    }

    private static final class Milky extends Soft {
        @Override int kind() { return 4; }
        @Override int fades(int day) { return super.fades(day) / 2; }
        @Override int fortune(Model m) { return 0; }
        @Override int lies(int x) { trace.add(50); return -super.lies(x); }
        @Override int reads(int x) { trace.add(51); return super.reads(x + 1); }
    }

    private static final class Farmer extends Rough {
        @Override int kind() { return 5; }
        @Override int fades(int day) { return super.fades(day) + 1; }
        @Override int tells(int x) { trace.add(60); return super.tells(x - i); }
    }

    private static final class Told extends Gloved {
        @Override int kind() { return 6; }
        @Override int fades(int day) { return super.fades(day) + row[day % 4]; }
        @Override int reads(int x) { trace.add(70); return super.reads(x) + super.lies(2); }
        @Override int lies(int x) { trace.add(71); return super.lies(x) ^ v; }
    }

    private static Hand newHand(int kind) {
        switch (kind) {
            case 0: return new Hand();
            case 1: return new Soft();
            case 2: return new Rough();
            case 3: return new Gloved();
            case 4: return new Milky();
            case 5: return new Farmer();
            default: return new Told();
        }
    }

    private static final Pattern BOOTH = Pattern.compile(boothPattern());

    private static String boothPattern() {
        String test = "[hlkvxd][<=>][0-9]{1,2}";
        String one = test;
        for (int depth = 0; depth < 4; depth++) {
            String either = either(one);
            one = "(?:!" + one + "|\\(" + either + "\\)|" + test + ")";
        }
        String number = " [0-9]{1,2}";
        String clause = "(?:(?:bless|blight)" + number + " " + either(one) + "|(?:room|press)" + number + ")";
        return clause + "(?:;" + clause + "){0,9}";
    }

    private static String either(String one) {
        String both = one + "(?:&" + one + ")*";
        return both + "(?:\\|" + both + ")*";
    }

    /** -1 for a booth, else its fault. */
    private static int faultOf(String text) {
        for (int n = 1; n <= text.length(); n++) {
            Matcher matcher = BOOTH.matcher(text.substring(0, n));
            if (!matcher.matches() && !matcher.hitEnd()) return n - 1;
        }
        return BOOTH.matcher(text).matches() ? -1 : text.length();
    }

    private static final class Model {
        List<Hand> hands = new ArrayList<>();
        int ink = 100, day = 0;
        String booth = "";
        int booths = 0;
        String text = "";
        List<int[]> seen = new ArrayList<>(), fair = new ArrayList<>(), book = new ArrayList<>();
        Model image;
        List<Integer> trace = new ArrayList<>();
        Object[] tapes = new Object[6];

        Model copy() {
            Model copy = new Model();
            for (Hand hand : hands) copy.hands.add(hand.copy());
            copy.ink = ink;
            copy.day = day;
            copy.booth = booth;
            copy.seen.addAll(seen);
            copy.fair.addAll(fair);
            copy.book.addAll(book);
            return copy;
        }

        boolean has(int hand) { return 0 <= hand && hand < hands.size(); }
        boolean has(int hand, int line) { return has(hand) && 0 <= line && line <= 2; }

        String[] clauses() { return booth.isEmpty() ? new String[0] : booth.split(";"); }

        int last(String word, int without) {
            int n = without;
            for (String clause : clauses()) {
                if (clause.startsWith(word)) n = Integer.parseInt(clause.split(" ")[1]);
            }
            return n;
        }

        int room() { return Math.min(60, last("room", 20)); }
        int press() { return Math.max(1, last("press", 4)); }

        int grace(Hand hand, int line) {
            int sum = 0;
            for (String clause : clauses()) {
                String[] parts = clause.split(" ");
                if (parts.length == 3 && holds(parts[2], hand, line)) {
                    sum += (parts[0].equals("bless") ? 1 : -1) * Integer.parseInt(parts[1]);
                }
            }
            return sum;
        }

        boolean holds(String e, Hand hand, int line) {
            for (char sign : new char[] {'|', '&'}) {
                int depth = 0;
                for (int n = 0; n < e.length(); n++) {
                    if (e.charAt(n) == '(') depth++;
                    if (e.charAt(n) == ')') depth--;
                    if (depth == 0 && e.charAt(n) == sign) {
                        boolean left = holds(e.substring(0, n), hand, line);
                        boolean right = holds(e.substring(n + 1), hand, line);
                        return sign == '|' ? left || right : left && right;
                    }
                }
            }
            if (e.charAt(0) == '!') return !holds(e.substring(1), hand, line);
            if (e.charAt(0) == '(') return holds(e.substring(1, e.length() - 1), hand, line);
            int[] values = {hand.i, line, hand.kind(), hand.v, hand.lines[line], day % 10};
            int value = values["hlkvxd".indexOf(e.charAt(0))];
            int n = Integer.parseInt(e.substring(2));
            return e.charAt(1) == '<' ? value < n : e.charAt(1) == '=' ? value == n : value > n;
        }

        int worth(Hand hand, int line) {
            return hand.lines[line] == 0 ? 0 : Math.max(0, hand.lines[line] + grace(hand, line));
        }

        int fortune() {
            int sum = 0;
            for (Hand hand : hands) sum += hand.fortune(this);
            return sum;
        }

        int length() {
            int sum = 0;
            for (Hand hand : hands) for (int length : hand.lines) sum += length;
            return sum;
        }

        void aDay() {
            for (Hand hand : hands) {
                for (int line = 0; line < 3; line++) {
                    hand.lines[line] = Math.max(0, hand.lines[line] - hand.fades(day));
                }
            }
            day++;
        }

        Model behind(int n) {
            Model then = copy();
            for (int past = 0; past < n; past++) then.aDay();
            return then;
        }

        int drawOn(int hand, int line, int n) {
            int more = 0;
            int[] lines = hands.get(hand).lines;
            while (more < n && ink > 0 && lines[line] < room()) {
                lines[line]++;
                ink--;
                more++;
            }
            return more;
        }

        int shakeHands(int one, int other) {
            Hand a = hands.get(one), b = hands.get(other);
            a.shook++;
            b.shook++;
            if (!a.prints() || !b.prints()) return 0;
            int more = 0;
            for (int line = 0; line < 3; line++) {
                int d = a.lines[line] - b.lines[line];
                if (d > 0) { b.lines[line] += d / press(); more += d / press(); }
                if (d < 0) { a.lines[line] += -d / press(); more += -d / press(); }
            }
            return more;
        }

        List<int[]> pairs() {
            List<int[]> pairs = new ArrayList<>();
            for (int one = 0; one < hands.size(); one++) {
                for (int other = one + 1; other < hands.size(); other++) pairs.add(new int[] {one, other});
            }
            return pairs;
        }

        boolean bookSo() { return looked() == -5; }

        int looked() {
            for (int n = 0; n < book.size(); n++) {
                int[] row = book.get(n);
                if (hands.get(row[0]).lines[row[1]] != row[2]) return n;
            }
            return -5;
        }

        boolean seenSo() {
            for (int[] row : seen) {
                if (behind(row[3]).hands.get(row[0]).lines[row[1]] != row[2]) return false;
            }
            return true;
        }

        /** The shakes by which the book is so; null for none. All rows of one length, in their order, then longer ones. */
        List<int[]> shakes() {
            List<List<int[]>> rows = new ArrayList<>();
            rows.add(new ArrayList<>());
            for (int many = 0; many <= 3; many++) {
                for (List<int[]> row : rows) {
                    Model then = copy();
                    for (int[] pair : row) then.shakeHands(pair[0], pair[1]);
                    if (then.bookSo()) return row;
                }
                List<List<int[]>> longer = new ArrayList<>();
                for (List<int[]> row : rows) {
                    for (int[] pair : pairs()) {
                        List<int[]> more = new ArrayList<>(row);
                        more.add(pair);
                        longer.add(more);
                    }
                }
                rows = longer;
            }
            return null;
        }

        int tapeSize(int tape) { return java.lang.reflect.Array.getLength(tapes[tape]); }
    }

    // ---- calls

    private static long part(long above, long below, int part) {
        for (long n = below; n > 1; n--) {
            if (above % n == 0 && below % n == 0) {
                above /= n;
                below /= n;
            }
        }
        return part == 0 ? above : below;
    }

    private static boolean in(int n, int least, int most) { return least <= n && n <= most; }

    private static long answer(Model m, int call, int a, int b, int c, int d, int e, long v) {
        switch (call) {
            case 0: { // hand
                if (!in(a, 0, 6)) return -1;
                if (!in(b, 0, 9) || !in(c, 0, 60)) return -2;
                if (m.hands.size() == 5) return -4;
                Hand hand = newHand(a);
                hand.i = m.hands.size();
                hand.v = b;
                Arrays.fill(hand.lines, c);
                m.hands.add(hand);
                return hand.i;
            }
            case 1: { // of
                if (!m.has(a)) return -1001;
                Hand hand = m.hands.get(a);
                if (b == 0) return hand.kind();
                if (b == 1) return hand.v;
                if (b == 2) return hand.shook;
                if (b == 3) return hand.fortune(m);
                if (b == 4) return hand.fades(m.day);
                if (in(b, 10, 12)) return hand.lines[b - 10];
                if (in(b, 20, 22)) return m.grace(hand, b - 20);
                if (in(b, 30, 32)) return m.worth(hand, b - 30);
                return -1001;
            }
            case 2: { // set
                if (!m.has(a, b)) return -1;
                if (!in(c, 0, 60)) return -2;
                int was = m.hands.get(a).lines[b];
                m.hands.get(a).lines[b] = c;
                return was;
            }
            case 3: { // row
                if (!m.has(a) || !in(b, 0, 3)) return -1;
                if (!in(c, 0, 9)) return -2;
                if (m.hands.get(a).kind() != 6) return -3;
                int was = m.hands.get(a).row[b];
                m.hands.get(a).row[b] = c;
                return was;
            }
            case 4: { // ink
                if (!in(a, 0, 999)) return -2;
                int was = m.ink;
                m.ink = a;
                return was;
            }
            case 5: // draw
                if (!m.has(a, b)) return -1;
                if (!in(c, 0, 60)) return -2;
                return m.drawOn(a, b, c);
            case 6: // shake
                if (!m.has(a) || !m.has(b)) return -1;
                if (a == b) return -2;
                return m.shakeHands(a, b);
            case 7: // feed
                if (!in(a, 0, 127)) return -2;
                if (m.text.length() == 100) return -4;
                m.text += (char) a;
                return m.text.length();
            case 8: { // booth
                if (m.booths == 6) return -4;
                String text = m.text;
                m.text = "";
                int fault = faultOf(text);
                if (fault >= 0) return -10 - fault;
                m.booth = text;
                return m.booths++;
            }
            case 9: { // told
                int[] all = {m.day, m.room(), m.press(), m.ink, m.fortune(), m.length()};
                return in(a, 0, 5) ? all[a] : -1;
            }
            case 10: // pass
                if (!in(a, 0, 60)) return -2;
                if (m.day + a > 9999) return -3;
                for (int n = 0; n < a; n++) m.aDay();
                return m.day;
            case 11: { // on
                boolean one = in(b, 10, 14) && m.has(b - 10);
                boolean line = in(b, 20, 34) && m.has((b - 20) / 3);
                if (b != 0 && !one && !line) return -1;
                if (!in(a, 0, 60)) return -2;
                Model then = m.behind(a);
                if (b == 0) return then.fortune();
                if (one) return then.hands.get(b - 10).fortune(then);
                return then.hands.get((b - 20) / 3).lines[(b - 20) % 3];
            }
            case 12: // lasts
                if (!m.has(a)) return -1;
                if (!in(b, 0, 999)) return -2;
                for (int n = 0; n <= 60; n++) {
                    Model then = m.behind(n);
                    if (then.hands.get(a).fortune(then) < b) return n;
                }
                return -5;
            case 13: { // pen
                if (!m.has(a)) return -1;
                if (!in(b, 1, 9)) return -2;
                int[] fortunes = new int[3];
                for (int line = 0; line < 3; line++) {
                    Model then = m.copy();
                    then.drawOn(a, line, b);
                    fortunes[line] = then.hands.get(a).fortune(then);
                }
                int most = Math.max(fortunes[0], Math.max(fortunes[1], fortunes[2]));
                return fortunes[0] == most ? 0 : fortunes[1] == most ? 1 : 2;
            }
            case 14: { // share
                if (!m.has(a) || !in(c, -1, 2)) return -1;
                if (!in(b, 0, 12)) return -2;
                List<int[]> ways = new ArrayList<>();
                for (int x = 0; x <= b; x++) {
                    for (int y = 0; y <= b - x; y++) {
                        Model then = m.copy();
                        then.drawOn(a, 0, x);
                        then.drawOn(a, 1, y);
                        then.drawOn(a, 2, b - x - y);
                        ways.add(new int[] {x, y, b - x - y, then.hands.get(a).fortune(then)});
                    }
                }
                ways.sort((p, q) -> p[3] != q[3] ? q[3] - p[3] : p[0] != q[0] ? q[0] - p[0] : q[1] - p[1]);
                return ways.get(0)[c == -1 ? 3 : c];
            }
            case 15: { // meet
                int most = m.fortune();
                int best = -5;
                for (int[] pair : m.pairs()) {
                    Model then = m.copy();
                    then.shakeHands(pair[0], pair[1]);
                    if (then.fortune() > most) {
                        most = then.fortune();
                        best = 10 * pair[0] + pair[1];
                    }
                }
                return best;
            }
            case 16: // book
                if (a == -1) { m.book.clear(); return 0; }
                if (!m.has(a, b)) return -1;
                if (!in(c, 0, 60)) return -2;
                if (m.book.size() == 8) return -4;
                m.book.add(new int[] {a, b, c});
                return m.book.size();
            case 17: // looked
                return m.looked();
            case 18: { // shaken
                if (!in(a, -1, 2)) return -1;
                List<int[]> shakes = m.shakes();
                if (shakes == null) return -5;
                if (a == -1) return shakes.size();
                return a < shakes.size() ? 10 * shakes.get(a)[0] + shakes.get(a)[1] : -5;
            }
            case 19: // see
                if (a == -1) { m.seen.clear(); return 0; }
                if (!m.has(a, b)) return -1;
                if (!in(c, 0, 60) || !in(d, 0, 20)) return -2;
                if (m.seen.size() == 5) return -4;
                m.seen.add(new int[] {a, b, c, d});
                return m.seen.size();
            case 20: case 21: { // was, can
                boolean was = call == 20;
                int what = was ? c : b;
                if (!m.has(a) || was && !in(b, 0, 2) || !in(what, 0, 1)) return -1;
                List<Integer> so = new ArrayList<>();
                for (int n = 0; n <= (was ? 60 : 9); n++) {
                    Model then = m.copy();
                    if (was) then.hands.get(a).lines[b] = n; else then.hands.get(a).v = n;
                    if (then.seenSo()) so.add(n);
                }
                return what == 0 ? so.size() : so.isEmpty() ? -5 : so.get(0);
            }
            case 22: { // odds
                if (!in(a, 0, 999) || !in(b, 0, 1) || m.hands.size() < 2) return NO;
                int rich = 0;
                for (int[] pair : m.pairs()) {
                    Model then = m.copy();
                    then.shakeHands(pair[0], pair[1]);
                    if (then.fortune() >= a) rich++;
                }
                return part(rich, m.pairs().size(), b);
            }
            case 23: // mean
                if (!in(a, 0, 60) || !in(b, 0, 1) || m.hands.isEmpty()) return NO;
                return part(m.behind(a).fortune(), m.hands.size(), b);
            case 24: // fair
                if (a == -1) { m.fair.clear(); return 0; }
                if (a != 5 && (!m.has(a) || !m.has(b))) return -1;
                if (a != 5 && a == b) return -2;
                if (m.fair.size() == 10) return -4;
                m.fair.add(new int[] {a, b});
                return m.fair.size();
            case 25: { // ends
                if (!in(a, 0, 1)) return -1;
                Model then = m.copy();
                for (int[] row : m.fair) {
                    if (row[0] == 5) then.aDay(); else then.shakeHands(row[0], row[1]);
                }
                return a == 0 ? then.fortune() : then.length();
            }
            case 26: { // judge
                if (!in(a, 0, 5)) return -1;
                if (m.tapes[a] != null && !(m.tapes[a] instanceof byte[])) return -12;
                byte[] row = (byte[]) m.tapes[a];
                int n = 0;
                for (Hand hand : m.hands) {
                    for (int length : hand.lines) {
                        if (row == null || b < 0 || (long) b + n >= row.length) return 100 + n;
                        if (row[b + n] != length) return n;
                        n++;
                    }
                }
                return -5;
            }
            case 27: // image
                m.image = m.copy();
                return m.hands.size();
            case 28: { // undo
                if (m.image == null) return -3;
                Model then = m.image.copy();
                m.hands = then.hands;
                m.ink = then.ink;
                m.day = then.day;
                m.booth = then.booth;
                m.seen = then.seen;
                m.fair = then.fair;
                m.book = then.book;
                return m.hands.size();
            }
            case 29: { // act
                m.trace.clear();
                if (!m.has(a) || !in(b, 0, 2)) return 0;
                Hand hand = m.hands.get(a);
                hand.trace = m.trace;
                return b == 0 ? hand.lies(c) : b == 1 ? hand.reads(c) : hand.tells(c);
            }
            case 30: // trace
                return in(a, 0, Math.min(20, m.trace.size()) - 1) ? m.trace.get(a) : -1;
            case 31: { // taken
                if (!in(b, 0, 6)) return -2;
                if (!m.has(a)) return -11;
                Hand hand = m.hands.get(a);
                return newHand(b).getClass().isInstance(hand) ? hand.kind() : -12;
            }
            case 32: { // count
                int[] all = {m.hands.size(), m.booths, m.seen.size(), m.fair.size(), m.book.size(),
                    m.text.length(), m.trace.size()};
                return in(a, 0, 6) ? all[a] : -2;
            }
            case 33: // tape
                if (!in(a, 0, 5)) return -1;
                if (!in(b, -1, 4)) return -2;
                if (b == -1) { m.tapes[a] = null; return 1; }
                if (c > 60) return -2;
                if (c < 0) return -14;
                m.tapes[a] = b == 0 ? new byte[c] : b == 1 ? new short[c] : b == 2 ? new int[c]
                    : b == 3 ? new long[c] : new boolean[c];
                return 1;
            case 34: { // item
                if (!in(a, 0, 5)) return -1;
                Object tape = m.tapes[a];
                if (tape == null) return -11;
                if (!in(b, 0, m.tapeSize(a) - 1)) return -13;
                if (tape instanceof byte[]) ((byte[]) tape)[b] = (byte) v;
                if (tape instanceof short[]) ((short[]) tape)[b] = (short) v;
                if (tape instanceof int[]) ((int[]) tape)[b] = (int) v;
                if (tape instanceof long[]) ((long[]) tape)[b] = v;
                if (tape instanceof boolean[]) ((boolean[]) tape)[b] = v != 0;
                return 1;
            }
            case 35: { // read
                if (!in(a, 0, 5) || m.tapes[a] == null || !in(b, 0, m.tapeSize(a) - 1)) return NO;
                Object tape = m.tapes[a];
                if (tape instanceof boolean[]) return ((boolean[]) tape)[b] ? 1 : 0;
                return java.lang.reflect.Array.getLong(tape, b);
            }
            default: { // shift
                if (!in(a, 0, 5) || !in(c, 0, 5)) return -1;
                if (m.tapes[a] == null || m.tapes[c] == null) return -11;
                if (m.tapes[a].getClass() != m.tapes[c].getClass()) return -12;
                if (e < 0 || b < 0 || d < 0) return -13;
                if ((long) b + e > m.tapeSize(a) || (long) d + e > m.tapeSize(c)) return -13;
                System.arraycopy(m.tapes[a], b, m.tapes[c], d, e);
                return e;
            }
        }
    }

    private static final String[] NAMES = {"hand", "of", "set", "row", "ink", "draw", "shake", "feed", "booth", "told",
        "pass", "on", "lasts", "pen", "share", "meet", "book", "looked", "shaken", "see", "was", "can", "odds", "mean",
        "fair", "ends", "judge", "image", "undo", "act", "trace", "taken", "count", "tape", "item", "read", "shift"};

    private static long call(PalmsAltered x, int call, int a, int b, int c, int d, int e, long v) {
        switch (call) {
            case 0: return x.hand(a, b, c);
            case 1: return x.of(a, b);
            case 2: return x.set(a, b, c);
            case 3: return x.row(a, b, c);
            case 4: return x.ink(a);
            case 5: return x.draw(a, b, c);
            case 6: return x.shake(a, b);
            case 7: return x.feed(a);
            case 8: return x.booth();
            case 9: return x.told(a);
            case 10: return x.pass(a);
            case 11: return x.on(a, b);
            case 12: return x.lasts(a, b);
            case 13: return x.pen(a, b);
            case 14: return x.share(a, b, c);
            case 15: return x.meet();
            case 16: return x.book(a, b, c);
            case 17: return x.looked();
            case 18: return x.shaken(a);
            case 19: return x.see(a, b, c, d);
            case 20: return x.was(a, b, c);
            case 21: return x.can(a, b);
            case 22: return x.odds(a, b);
            case 23: return x.mean(a, b);
            case 24: return x.fair(a, b);
            case 25: return x.ends(a);
            case 26: return x.judge(a, b);
            case 27: return x.image();
            case 28: return x.undo();
            case 29: return x.act(a, b, c);
            case 30: return x.trace(a);
            case 31: return x.taken(a, b);
            case 32: return x.count(a);
            case 33: return x.tape(a, b, c);
            case 34: return x.item(a, b, v);
            case 35: return x.read(a, b);
            default: return x.shift(a, b, c, d, e);
        }
    }

    // ---- what is asked, by chance from a fixed seed

    private static final class Run {
        final Random random;
        final PalmsAltered x = new PalmsAltered();
        final Model m = new Model();
        final int run;
        int calls = 0;
        int wrong = 0;
        final StringBuilder log = new StringBuilder();

        Run(int run) {
            this.run = run;
            random = new Random(4242 + run);
        }

        /** Mostly one of least .. most, now and then next to them, seldom far off. */
        int pick(int least, int most) {
            int chance = random.nextInt(200);
            if (chance == 0) return Integer.MAX_VALUE;
            if (chance == 1) return Integer.MIN_VALUE;
            if (chance < 6) return least - 1;
            if (chance < 10) return most + 1;
            if (chance < 16) return most;
            if (chance < 22) return least;
            return least + random.nextInt(most - least + 1);
        }

        int hand() { return pick(0, Math.max(0, m.hands.size() - 1)); }
        int line() { return pick(0, 2); }

        long ask(int call, int a, int b, int c, int d, int e, long v) {
            if (calls >= CALLS) return 0;
            calls++;
            long want = answer(m, call, a, b, c, d, e, v);
            long got = call(x, call, a, b, c, d, e, v);
            if (got != want) {
                wrong++;
                System.out.println("run " + run + ", call " + calls + ": " + NAMES[call] + "(" + a + ", " + b + ", "
                    + c + ", " + d + ", " + e + ", " + v + ") answered " + got + ", due is " + want
                    + "; the booth is " + m.booth);
            }
            return got;
        }

        long ask(int call, int... args) {
            int[] all = Arrays.copyOf(args, 5);
            return ask(call, all[0], all[1], all[2], all[3], all[4], 0L);
        }

        void feedAll(String text) {
            for (int n = 0; n < text.length(); n++) ask(7, text.charAt(n));
        }

        String expression(int depth) {
            int chance = random.nextInt(10);
            if (depth > 0 && chance < 2) return "(" + expression(depth - 1) + ")";
            if (depth > 0 && chance < 4) return "!" + (random.nextBoolean() ? "(" + expression(depth - 1) + ")" : test());
            if (chance < 6) return test() + "&" + (depth > 0 ? expression(depth - 1) : test());
            if (chance < 8) return (depth > 0 ? expression(depth - 1) : test()) + "|" + test();
            return test();
        }

        String test() {
            char letter = "hlkvxd".charAt(random.nextInt(6));
            int most = letter == 'x' ? 60 : letter == 'l' ? 3 : letter == 'd' || letter == 'v' ? 10 : 7;
            return letter + "" + "<=>".charAt(random.nextInt(3)) + random.nextInt(most);
        }

        String boothText() {
            StringBuilder text = new StringBuilder();
            int clauses = random.nextInt(8) == 0 ? 9 + random.nextInt(3) : 1 + random.nextInt(4);
            for (int n = 0; n < clauses; n++) {
                if (n > 0) text.append(';');
                int chance = clauses > 8 ? 1 : random.nextInt(6);
                if (chance == 0) text.append("room ").append(random.nextInt(100));
                else if (chance == 1) text.append("press ").append(random.nextInt(clauses > 8 ? 9 : 12));
                else text.append(random.nextBoolean() ? "bless " : "blight ").append(random.nextInt(random.nextInt(4) == 0 ? 100 : 15))
                    .append(' ').append(expression(random.nextInt(5)));
            }
            if (random.nextInt(3) == 0 && text.length() > 0) {
                int at = random.nextInt(text.length());
                char sign = "blesightromp ;(!)|&<=>0123456789hlkvxd".charAt(random.nextInt(38));
                switch (random.nextInt(4)) {
                    case 0: text.setCharAt(at, sign); break;
                    case 1: text.insert(at, sign); break;
                    case 2: text.deleteCharAt(at); break;
                    default: text.setLength(at); break;
                }
            }
            return text.toString();
        }

        void step() {
            switch (random.nextInt(60)) {
                case 0: case 1: ask(0, pick(0, 6), pick(0, 9), pick(0, 60)); break;
                case 2: case 3: case 4: case 5: {
                    int part = random.nextInt(8);
                    ask(1, hand(), part < 5 ? part : 10 * (part - 4) + line());
                    ask(1, hand(), pick(0, 35));
                    break;
                }
                case 6: case 7: ask(2, hand(), line(), pick(0, 60)); break;
                case 8: case 9: for (int part = 0; part < 2; part++) ask(3, hand(), pick(0, 3), pick(0, 9)); break;
                case 10: ask(4, random.nextBoolean() ? pick(0, 999) : pick(0, 12)); break;
                case 11: case 12: ask(5, hand(), line(), random.nextBoolean() ? pick(0, 60) : pick(0, 9)); break;
                case 13: case 14: ask(6, hand(), hand()); break;
                case 15: ask(7, pick(0, 127)); if (random.nextInt(3) == 0) ask(8); break;
                case 16:
                    if (random.nextInt(3) == 0 && calls < CALLS - 200) {
                        feedAll(boothText());
                        ask(8);
                    }
                    break;
                case 17: case 18: case 19: ask(9, pick(0, 5)); break;
                case 20: ask(10, random.nextInt(4) == 0 ? pick(0, 60) : pick(0, 4)); break;
                case 21: case 22: case 23: {
                    int n = random.nextBoolean() ? pick(0, 60) : pick(0, 6);
                    int kind = random.nextInt(3);
                    ask(11, n, kind == 0 ? pick(0, 36) : kind == 1 ? 10 + hand() : 20 + 3 * hand() + line());
                    break;
                }
                case 24: case 25: ask(12, hand(), random.nextBoolean() ? pick(0, 999) : pick(0, 120)); break;
                case 26: case 27: ask(13, hand(), pick(1, 9)); break;
                case 28: case 29: {
                    int hand = hand(), n = pick(0, 12);
                    for (int k = -1; k < 3; k++) ask(14, hand, n, random.nextInt(15) == 0 ? pick(-1, 2) : k);
                    break;
                }
                case 30: case 31: ask(15); break;
                case 32: case 33: case 34: {
                    if (random.nextInt(5) == 0) ask(16, -1, pick(0, 9), pick(0, 70));
                    int hand = hand(), line = line();
                    int length = m.has(hand, line) && random.nextInt(3) > 0 ? m.hands.get(hand).lines[line] : pick(0, 60);
                    ask(16, hand, line, length);
                    break;
                }
                case 35: ask(17); break;
                case 36: case 37: reachedBook(); break;
                case 38: case 39: case 40: {
                    if (random.nextInt(4) == 0) ask(19, -1, pick(0, 9), pick(0, 70), pick(0, 30));
                    int hand = hand(), line = line(), n = pick(0, 20);
                    boolean stands = m.has(hand, line) && n >= 0 && n <= 60;
                    int length = stands && random.nextInt(4) > 0 ? m.behind(n).hands.get(hand).lines[line] : pick(0, 60);
                    ask(19, hand, line, length, n);
                    break;
                }
                case 41: case 42: ask(20, hand(), line(), pick(0, 1)); break;
                case 43: case 44: ask(21, hand(), pick(0, 1)); break;
                case 45: {
                    int q = random.nextBoolean() ? pick(0, 999) : m.fortune() + random.nextInt(30) - 3;
                    ask(22, q, pick(0, 1));
                    ask(22, q, pick(0, 1));
                    break;
                }
                case 46: ask(23, pick(0, 60), pick(0, 1)); ask(23, pick(0, 9), pick(0, 1)); break;
                case 47: case 48:
                    if (random.nextInt(8) == 0) ask(24, -1, pick(-3, 9));
                    ask(24, random.nextInt(3) == 0 ? 5 : hand(), hand());
                    break;
                case 49: ask(25, pick(0, 1)); break;
                case 50: if (random.nextInt(3) == 0) ask(27); break;
                case 51: if (random.nextInt(3) == 0) ask(28); break;
                case 52: case 53: case 54: {
                    int x = random.nextBoolean() ? pick(-9, 9) : random.nextInt();
                    ask(29, hand(), pick(0, 2), x);
                    ask(32, 6);
                    for (int n = 0; n < 3; n++) ask(30, pick(0, 12));
                    break;
                }
                case 55: ask(31, hand(), pick(0, 6)); break;
                case 56: ask(32, pick(0, 6)); break;
                case 57: judged(); break;
                default: tapes(); break;
            }
        }

        /** A book that is so after some shakes, so that the search has what it looks for. */
        void reachedBook() {
            if (m.hands.size() > 1 && random.nextInt(3) > 0) {
                Model then = m.copy();
                List<int[]> pairs = m.pairs();
                for (int n = random.nextInt(5); n > 0; n--) {
                    int[] pair = pairs.get(random.nextInt(pairs.size()));
                    then.shakeHands(pair[0], pair[1]);
                }
                ask(16, -1, 0, 0);
                for (int n = 1 + random.nextInt(8); n > 0; n--) {
                    int hand = random.nextInt(m.hands.size()), line = random.nextInt(3);
                    ask(16, hand, line, then.hands.get(hand).lines[line]);
                }
            }
            for (int k = -1; k < 3; k++) ask(18, random.nextInt(15) == 0 ? pick(-1, 2) : k);
        }

        void judged() {
            int tape = random.nextInt(6), from = random.nextInt(4);
            int size = Math.min(60, Math.max(0, from + 3 * m.hands.size() + random.nextInt(6) - 3));
            ask(33, tape, random.nextInt(8) == 0 ? pick(-1, 4) : 0, size);
            for (int n = 0; n < 3 * m.hands.size(); n++) {
                int length = random.nextInt(25) == 0 ? pick(0, 60) : m.hands.get(n / 3).lines[n % 3];
                ask(34, tape, from + n, 0, 0, 0, length);
            }
            ask(26, tape, random.nextInt(6) == 0 ? pick(0, 5) : from);
            ask(26, pick(0, 5), pick(0, 60));
        }

        void tapes() {
            if (random.nextInt(4) == 0) {
                ask(33, pick(0, 5), pick(-1, 4), random.nextInt(3) == 0 ? pick(0, 60) : pick(0, 8));
            }
            int tape = pick(0, 5);
            long v = random.nextInt(4) == 0 ? random.nextLong() : random.nextInt(4) == 0 ? pick(-300, 300) : pick(-2, 2);
            ask(34, tape, pick(0, 6), 0, 0, 0, v);
            for (int n = 0; n < 2; n++) ask(35, random.nextInt(3) == 0 ? pick(0, 5) : tape, pick(0, 6));
            int other = random.nextBoolean() ? tape : pick(0, 5);
            if (random.nextInt(20) == 0) ask(36, tape, pick(0, 6), other, pick(0, 6), pick(0, Integer.MAX_VALUE - 1));
            ask(36, tape, pick(0, 6), other, pick(0, 6), pick(0, 5));
            for (int n = 0; n < 4; n++) ask(35, random.nextBoolean() ? tape : other, n);
        }

        int go() {
            int first = random.nextInt(6);
            for (int n = 0; n < first; n++) ask(0, random.nextInt(7), random.nextInt(10), random.nextInt(61));
            for (int n = 0; n < 4 * first; n++) {
                if (random.nextInt(3) == 0) ask(2, random.nextInt(first), random.nextInt(3), random.nextInt(61));
                if (random.nextInt(4) == 0) ask(3, random.nextInt(first), random.nextInt(4), random.nextInt(10));
            }
            if (random.nextInt(4) > 0) {
                feedAll(boothText());
                ask(8);
            }
            if (random.nextInt(20) == 0) for (int n = 0; n < 170; n++) ask(10, pick(55, 60));
            while (calls < CALLS && wrong < 5) step();
            return wrong;
        }
    }

    public static void main(String[] args) {
        int runs = args.length > 0 ? Integer.parseInt(args[0]) : RUNS;
        int wrong = 0;
        for (int run = 0; run < runs && wrong < 20; run++) wrong += new Run(run).go();
        System.out.println(wrong == 0 ? runs + " runs answered as the second reading does" : wrong + " answers differ");
        if (wrong != 0) System.exit(1);
    }
}
