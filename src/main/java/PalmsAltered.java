import java.util.Arrays;

/** Hands with three lines that a pen makes longer, days make shorter and shaken hands print on one another. */
public final class PalmsAltered {
    public static final int NONE = -1, BAD = -2, STATE = -3, FULL = -4;
    public static final long NO = Long.MIN_VALUE;

    private static final int NOT_FOUND = -5, NO_SUCH_PART = -1001, FAULT_BASE = -10;
    private static final int NOTHING = -11, CAST = -12, PLACE = -13, SIZE = -14;
    private static final int ENDED = 100;

    private static final int HANDS = 5, LINES = 3, PARTS = 4, LONGEST = 60, LARGEST_V = 9;
    private static final int SOFT = 1, ROUGH = 2, GLOVED = 3, MILKY = 4, FARMER = 5, TOLD = 6;
    private static final int KINDS = 7;
    private static final int[] KIND_ABOVE = {-1, 0, 0, 0, 1, 2, 3};

    private static final int MOST_INK = 999, MOST_WORTH = 999, MOST_SHOOK = 9999, LAST_DAY = 9999;
    private static final int MOST_DAYS = 60, MOST_SEEN_DAYS = 20;
    private static final int MOST_BOOTHS = 6, MOST_SEEN = 5, MOST_BOOK = 8, MOST_FAIR = 10;
    private static final int MOST_SHAKES = 3, MOST_PEN = 9, MOST_SHARE = 12;
    private static final int A_DAY = 5;
    private static final int TAPES = 6, LONGEST_TAPE = 60;

    private final Scene now;
    private final Scene kept;
    /** What is tried out; the first of them is every question's scratch room, all of them are shaken()'s. */
    private final Scene[] trials;
    private boolean imageTaken;
    private final Ledger seen = new Ledger(), fair = new Ledger(), book = new Ledger();
    private final Ledger keptSeen = new Ledger(), keptFair = new Ledger(), keptBook = new Ledger();
    private final int[] shakes = new int[MOST_SHAKES];
    private final Text text = new Text();
    private int booths;
    private final Acts acts = new Acts();
    private final Tape[] tapes = new Tape[TAPES];

    public PalmsAltered() {
        Booth without = new Booth(new int[0], new int[0], Booth.ROOM_WITHOUT, Booth.PRESS_WITHOUT);
        now = new Scene(without);
        kept = new Scene(without);
        trials = new Scene[MOST_SHAKES + 1];
        for (int n = 0; n < trials.length; n++) {
            trials[n] = new Scene(without);
        }
        for (int n = 0; n < tapes.length; n++) {
            tapes[n] = new Tape();
        }
    }

    // ---- hands, booths

    public int hand(int kind, int v, int length) {
        if (!within(kind, 0, KINDS - 1)) {
            return NONE;
        }
        if (!within(v, 0, LARGEST_V) || !within(length, 0, LONGEST)) {
            return BAD;
        }
        if (now.hands >= HANDS) {
            return FULL;
        }
        return now.admit(kind, v, length);
    }

    public int of(int hand, int what) {
        if (!now.has(hand)) {
            return NO_SUCH_PART;
        }
        switch (what) {
            case 0: return now.kindOf(hand);
            case 1: return now.vOf(hand);
            case 2: return now.shookOf(hand);
            case 3: return now.fortuneOf(hand);
            case 4: return now.fadesOn(hand, now.day);
            default: return ofLine(hand, what / 10, what % 10);
        }
    }

    private int ofLine(int hand, int what, int line) {
        if (!now.hasLine(hand, line)) {
            return NO_SUCH_PART;
        }
        switch (what) {
            case 1: return now.lengthOf(hand, line);
            case 2: return now.graceOf(hand, line);
            case 3: return now.worthOf(hand, line);
            default: return NO_SUCH_PART;
        }
    }

    public int set(int hand, int line, int n) {
        if (!now.hasLine(hand, line)) {
            return NONE;
        }
        if (!within(n, 0, LONGEST)) {
            return BAD;
        }
        int before = now.lengthOf(hand, line);
        now.putLength(hand, line, n);
        return before;
    }

    public int row(int hand, int part, int n) {
        if (!now.has(hand) || !within(part, 0, PARTS - 1)) {
            return NONE;
        }
        if (!within(n, 0, 9)) {
            return BAD;
        }
        if (now.kindOf(hand) != TOLD) {
            return STATE;
        }
        int before = now.partOf(hand, part);
        now.putPart(hand, part, n);
        return before;
    }

    public int ink(int n) {
        if (!within(n, 0, MOST_INK)) {
            return BAD;
        }
        int before = now.ink;
        now.ink = n;
        return before;
    }

    public int draw(int hand, int line, int n) {
        if (!now.hasLine(hand, line)) {
            return NONE;
        }
        if (!within(n, 0, LONGEST)) {
            return BAD;
        }
        return now.drawOn(hand, line, n);
    }

    public int shake(int one, int other) {
        if (!now.has(one) || !now.has(other)) {
            return NONE;
        }
        if (one == other) {
            return BAD;
        }
        return now.shakeHands(one, other);
    }

    public int feed(int sign) {
        if (!within(sign, 0, 127)) {
            return BAD;
        }
        if (text.isFull()) {
            return FULL;
        }
        return text.add(sign);
    }

    public int booth() {
        if (booths >= MOST_BOOTHS) {
            return FULL;
        }
        int answer = booths;
        if (text.isBooth()) {
            now.holding = text.lastBooth();
            booths++;
        } else {
            answer = FAULT_BASE - text.place();
        }
        text.clear();
        return answer;
    }

    public int told(int what) {
        switch (what) {
            case 0: return now.day;
            case 1: return now.holding.room;
            case 2: return now.holding.press;
            case 3: return now.ink;
            case 4: return now.fortuneOfAll();
            case 5: return now.lengthOfAll();
            default: return NONE;
        }
    }

    // ---- days

    public int pass(int n) {
        if (!within(n, 0, MOST_DAYS)) {
            return BAD;
        }
        if (now.day + n > LAST_DAY) {
            return STATE;
        }
        now.goDays(n);
        return now.day;
    }

    public int on(int n, int what) {
        boolean ofAll = what == 0;
        boolean ofOne = what >= 10 && now.has(what - 10);
        boolean ofALine = what >= 20 && now.has((what - 20) / LINES);
        if (!ofAll && !ofOne && !ofALine) {
            return NONE;
        }
        if (!within(n, 0, MOST_DAYS)) {
            return BAD;
        }
        Scene then = trials[0];
        then.become(now);
        then.goDays(n);
        if (ofAll) {
            return then.fortuneOfAll();
        }
        return ofOne ? then.fortuneOf(what - 10) : then.lengthOf((what - 20) / LINES, (what - 20) % LINES);
    }

    public int lasts(int hand, int q) {
        if (!now.has(hand)) {
            return NONE;
        }
        if (!within(q, 0, MOST_WORTH)) {
            return BAD;
        }
        Scene then = trials[0];
        then.become(now);
        for (int n = 0; n <= MOST_DAYS; n++) {
            if (then.fortuneOf(hand) < q) {
                return n;
            }
            then.goDays(1);
        }
        return NOT_FOUND;
    }

    // ---- pens, shakes

    public int pen(int hand, int n) {
        if (!now.has(hand)) {
            return NONE;
        }
        if (!within(n, 1, MOST_PEN)) {
            return BAD;
        }
        int best = 0;
        int most = -1;
        for (int line = 0; line < LINES; line++) {
            Scene then = trials[0];
            then.become(now);
            then.drawOn(hand, line, n);
            int fortune = then.fortuneOf(hand);
            if (fortune > most) {
                most = fortune;
                best = line;
            }
        }
        return best;
    }

    public int share(int hand, int n, int k) {
        if (!now.has(hand) || !within(k, -1, LINES - 1)) {
            return NONE;
        }
        if (!within(n, 0, MOST_SHARE)) {
            return BAD;
        }
        int most = -1;
        int answer = 0;
        // From much to little, so that of several ways the first that is met is the one asked for.
        for (int first = n; first >= 0; first--) {
            for (int second = n - first; second >= 0; second--) {
                int third = n - first - second;
                int fortune = ifDrawn(hand, first, second, third).fortuneOf(hand);
                if (fortune > most) {
                    most = fortune;
                    answer = k == 0 ? first : k == 1 ? second : third;
                }
            }
        }
        return k < 0 ? most : answer;
    }

    private Scene ifDrawn(int hand, int first, int second, int third) {
        Scene then = trials[0];
        then.become(now);
        then.drawOn(hand, 0, first);
        then.drawOn(hand, 1, second);
        then.drawOn(hand, 2, third);
        return then;
    }

    public int meet() {
        int most = now.fortuneOfAll();
        int best = NOT_FOUND;
        for (int one = 0; one < now.hands; one++) {
            for (int other = one + 1; other < now.hands; other++) {
                int fortune = ifShaken(one, other).fortuneOfAll();
                if (fortune > most) {
                    most = fortune;
                    best = 10 * one + other;
                }
            }
        }
        return best;
    }

    private Scene ifShaken(int one, int other) {
        Scene then = trials[0];
        then.become(now);
        then.shakeHands(one, other);
        return then;
    }

    public int book(int hand, int line, int length) {
        if (hand == -1) {
            return book.clear();
        }
        if (!now.hasLine(hand, line)) {
            return NONE;
        }
        if (!within(length, 0, LONGEST)) {
            return BAD;
        }
        if (book.rows >= MOST_BOOK) {
            return FULL;
        }
        return book.add(hand, line, length, 0);
    }

    public int looked() {
        return firstOtherwise(now);
    }

    private int firstOtherwise(Scene scene) {
        for (int n = 0; n < book.rows; n++) {
            if (scene.lengthOf(book.at(n, 0), book.at(n, 1)) != book.at(n, 2)) {
                return n;
            }
        }
        return NOT_FOUND;
    }

    public int shaken(int k) {
        if (!within(k, -1, MOST_SHAKES - 1)) {
            return NONE;
        }
        trials[0].become(now);
        for (int many = 0; many <= MOST_SHAKES; many++) {
            if (isSoAfter(0, many)) {
                return k < 0 ? many : k < many ? shakes[k] : NOT_FOUND;
            }
        }
        return NOT_FOUND;
    }

    /** Whether the book is so after shakes from the trial at depth on to the one at many; notes which they are. */
    private boolean isSoAfter(int depth, int many) {
        if (depth < 0 || depth > MOST_SHAKES) {
            return false;
        }
        if (depth >= many || depth == MOST_SHAKES) {
            return firstOtherwise(trials[depth]) == NOT_FOUND;
        }
        Scene then = trials[depth + 1];
        for (int one = 0; one < now.hands; one++) {
            for (int other = one + 1; other < now.hands; other++) {
                then.become(trials[depth]);
                then.shakeHands(one, other);
                shakes[depth] = 10 * one + other;
                if (isSoAfter(depth + 1, many)) {
                    return true;
                }
            }
        }
        return false;
    }

    // ---- seen, odds

    public int see(int hand, int line, int length, int n) {
        if (hand == -1) {
            return seen.clear();
        }
        if (!now.hasLine(hand, line)) {
            return NONE;
        }
        if (!within(length, 0, LONGEST) || !within(n, 0, MOST_SEEN_DAYS)) {
            return BAD;
        }
        if (seen.rows >= MOST_SEEN) {
            return FULL;
        }
        return seen.add(hand, line, length, n);
    }

    private boolean isAllSeenSo(Scene scene) {
        for (int n = 0; n < seen.rows; n++) {
            int length = scene.lengthBehind(seen.at(n, 0), seen.at(n, 1), seen.at(n, 3));
            if (length != seen.at(n, 2)) {
                return false;
            }
        }
        return true;
    }

    public int was(int hand, int line, int what) {
        if (!now.hasLine(hand, line) || !within(what, 0, 1)) {
            return NONE;
        }
        Scene then = trials[0];
        then.become(now);
        int many = 0;
        int least = NOT_FOUND;
        for (int length = LONGEST; length >= 0; length--) {
            then.putLength(hand, line, length);
            if (isAllSeenSo(then)) {
                many++;
                least = length;
            }
        }
        return what == 0 ? many : least;
    }

    public int can(int hand, int what) {
        if (!now.has(hand) || !within(what, 0, 1)) {
            return NONE;
        }
        Scene then = trials[0];
        then.become(now);
        int many = 0;
        int least = NOT_FOUND;
        for (int v = LARGEST_V; v >= 0; v--) {
            then.putV(hand, v);
            if (isAllSeenSo(then)) {
                many++;
                least = v;
            }
        }
        return what == 0 ? many : least;
    }

    public long odds(int q, int part) {
        if (!within(q, 0, MOST_WORTH) || !within(part, 0, 1) || now.hands < 2) {
            return NO;
        }
        int pairs = 0;
        int rich = 0;
        for (int one = 0; one < now.hands; one++) {
            for (int other = one + 1; other < now.hands; other++) {
                pairs++;
                if (ifShaken(one, other).fortuneOfAll() >= q) {
                    rich++;
                }
            }
        }
        return lowestTerm(rich, pairs, part);
    }

    public long mean(int n, int part) {
        if (!within(n, 0, MOST_DAYS) || !within(part, 0, 1) || now.hands < 1) {
            return NO;
        }
        Scene then = trials[0];
        then.become(now);
        then.goDays(n);
        return lowestTerm(then.fortuneOfAll(), now.hands, part);
    }

    private static int lowestTerm(int above, int below, int part) {
        int divisor = above;
        int rest = below;
        for (int n = 0; n < 1000 && rest != 0; n++) {
            int next = divisor % rest;
            divisor = rest;
            rest = next;
        }
        int term = part == 0 ? above : below;
        return divisor == 0 ? term : term / divisor;
    }

    // ---- fairs

    public int fair(int one, int other) {
        if (one == -1) {
            return fair.clear();
        }
        if (one != A_DAY) {
            if (!now.has(one) || !now.has(other)) {
                return NONE;
            }
            if (one == other) {
                return BAD;
            }
        }
        if (fair.rows >= MOST_FAIR) {
            return FULL;
        }
        return fair.add(one, other, 0, 0);
    }

    public int ends(int what) {
        if (!within(what, 0, 1)) {
            return NONE;
        }
        Scene then = trials[0];
        then.become(now);
        for (int n = 0; n < fair.rows; n++) {
            if (fair.at(n, 0) == A_DAY) {
                then.goDays(1);
            } else {
                then.shakeHands(fair.at(n, 0), fair.at(n, 1));
            }
        }
        return what == 0 ? then.fortuneOfAll() : then.lengthOfAll();
    }

    // ---- judging, the image, acts, tapes

    public int judge(int tape, int i) {
        if (!isTape(tape)) {
            return NONE;
        }
        Tape lengths = tapes[tape];
        if (!lengths.holdsNothing() && lengths.sort != Tape.BYTES) {
            return CAST;
        }
        for (int n = 0; n < now.hands * LINES; n++) {
            if (i < 0 || !lengths.hasPlace(i + n)) {
                return ENDED + n;
            }
            if (lengths.at(i + n) != now.lengthOf(n / LINES, n % LINES)) {
                return n;
            }
        }
        return NOT_FOUND;
    }

    public int image() {
        kept.become(now);
        keptSeen.become(seen);
        keptFair.become(fair);
        keptBook.become(book);
        imageTaken = true;
        return now.hands;
    }

    public int undo() {
        if (!imageTaken) {
            return STATE;
        }
        now.become(kept);
        seen.become(keptSeen);
        fair.become(keptFair);
        book.become(keptBook);
        return now.hands;
    }

    public int act(int hand, int act, int x) {
        acts.forget();
        if (!now.has(hand) || !within(act, 0, Acts.ACTS - 1)) {
            return 0;
        }
        return acts.begin(hand, now.kindOf(hand), now.vOf(hand), act, x);
    }

    public int trace(int i) {
        return acts.isKept(i) ? acts.bodyAt(i) : NONE;
    }

    public int taken(int hand, int k) {
        if (!within(k, 0, KINDS - 1)) {
            return BAD;
        }
        if (!now.has(hand)) {
            return NOTHING;
        }
        int kind = now.kindOf(hand);
        int above = kind;
        for (int n = 0; n < KINDS && within(above, 0, KINDS - 1); n++) {
            if (above == k) {
                return kind;
            }
            above = KIND_ABOVE[above];
        }
        return CAST;
    }

    public int count(int what) {
        switch (what) {
            case 0: return now.hands;
            case 1: return booths;
            case 2: return seen.rows;
            case 3: return fair.rows;
            case 4: return book.rows;
            case 5: return text.size();
            case 6: return acts.ran();
            default: return BAD;
        }
    }

    public int tape(int tape, int sort, int n) {
        if (!isTape(tape)) {
            return NONE;
        }
        if (!within(sort, Tape.OF_NOTHING, Tape.BOOLEANS)) {
            return BAD;
        }
        if (sort == Tape.OF_NOTHING) {
            tapes[tape].become(sort, 0);
            return 1;
        }
        if (n > LONGEST_TAPE) {
            return BAD;
        }
        if (n < 0) {
            return SIZE;
        }
        tapes[tape].become(sort, n);
        return 1;
    }

    public int item(int tape, int i, long v) {
        if (!isTape(tape)) {
            return NONE;
        }
        if (tapes[tape].holdsNothing()) {
            return NOTHING;
        }
        if (!tapes[tape].hasPlace(i)) {
            return PLACE;
        }
        tapes[tape].put(i, v);
        return 1;
    }

    public long read(int tape, int i) {
        if (!isTape(tape) || !tapes[tape].hasPlace(i)) {
            return NO;
        }
        return tapes[tape].at(i);
    }

    public int shift(int tape, int i, int other, int j, int n) {
        if (!isTape(tape) || !isTape(other)) {
            return NONE;
        }
        Tape from = tapes[tape];
        Tape to = tapes[other];
        if (from.holdsNothing() || to.holdsNothing()) {
            return NOTHING;
        }
        if (from.sort != to.sort) {
            return CAST;
        }
        if (!from.hasSpan(i, n) || !to.hasSpan(j, n)) {
            return PLACE;
        }
        System.arraycopy(from.items, i, to.items, j, n);
        return n;
    }

    private static boolean isTape(int tape) {
        return within(tape, 0, TAPES - 1);
    }

    private static boolean within(int n, int least, int most) {
        return n >= least && n <= most;
    }

    /** How all is: the hands, the ink, the day, and which booth holds. */
    private static final class Scene {
        private final int[] kinds = new int[HANDS];
        private final int[] vs = new int[HANDS];
        private final int[] shooks = new int[HANDS];
        private final int[] lengths = new int[HANDS * LINES];
        private final int[] parts = new int[HANDS * PARTS];
        /** What a booth's letters are for the line that is looked at, made once because grace is asked so often. */
        private final int[] values = new int[Booth.LETTERS.length()];
        int hands;
        int ink = 100;
        int day;
        Booth holding;

        Scene(Booth holding) {
            this.holding = holding;
        }

        void become(Scene other) {
            System.arraycopy(other.kinds, 0, kinds, 0, HANDS);
            System.arraycopy(other.vs, 0, vs, 0, HANDS);
            System.arraycopy(other.shooks, 0, shooks, 0, HANDS);
            System.arraycopy(other.lengths, 0, lengths, 0, HANDS * LINES);
            System.arraycopy(other.parts, 0, parts, 0, HANDS * PARTS);
            hands = other.hands;
            ink = other.ink;
            day = other.day;
            holding = other.holding;
        }

        boolean has(int hand) {
            return hand >= 0 && hand < hands && hand < HANDS;
        }

        boolean hasLine(int hand, int line) {
            return has(hand) && line >= 0 && line < LINES;
        }

        /** How often it shook and its row need no care: they are 0 here, for undo() brings whole arrays back. */
        int admit(int kind, int v, int length) {
            if (hands >= HANDS) {
                return FULL;
            }
            int hand = hands;
            hands++;
            kinds[hand] = kind;
            vs[hand] = v;
            for (int line = 0; line < LINES; line++) {
                putLength(hand, line, length);
            }
            return hand;
        }

        int kindOf(int hand) {
            return has(hand) ? kinds[hand] : 0;
        }

        int vOf(int hand) {
            return has(hand) ? vs[hand] : 0;
        }

        void putV(int hand, int v) {
            if (has(hand)) {
                vs[hand] = v;
            }
        }

        int shookOf(int hand) {
            return has(hand) ? shooks[hand] : 0;
        }

        int lengthOf(int hand, int line) {
            return hasLine(hand, line) ? lengths[hand * LINES + line] : 0;
        }

        void putLength(int hand, int line, int length) {
            if (hasLine(hand, line)) {
                lengths[hand * LINES + line] = length;
            }
        }

        private boolean hasPart(int hand, int part) {
            return has(hand) && part >= 0 && part < PARTS;
        }

        int partOf(int hand, int part) {
            return hasPart(hand, part) ? parts[hand * PARTS + part] : 0;
        }

        void putPart(int hand, int part, int n) {
            if (hasPart(hand, part)) {
                parts[hand * PARTS + part] = n;
            }
        }

        int graceOf(int hand, int line) {
            values[0] = hand;
            values[1] = line;
            values[2] = kindOf(hand);
            values[3] = vOf(hand);
            values[4] = lengthOf(hand, line);
            values[5] = day % 10;
            return holding.grace(values);
        }

        int worthOf(int hand, int line) {
            int length = lengthOf(hand, line);
            return length == 0 ? 0 : Math.max(0, length + graceOf(hand, line));
        }

        int fortuneOf(int hand) {
            int kind = kindOf(hand);
            if (kind == MILKY) {
                return 0;
            }
            int fortune = kind == SOFT ? vOf(hand) : 0;
            for (int line = 0; line < LINES; line++) {
                fortune += worthOf(hand, line);
            }
            return fortune;
        }

        int fortuneOfAll() {
            int fortune = 0;
            for (int hand = 0; hand < hands; hand++) {
                fortune += fortuneOf(hand);
            }
            return fortune;
        }

        int lengthOfAll() {
            int length = 0;
            for (int hand = 0; hand < hands; hand++) {
                for (int line = 0; line < LINES; line++) {
                    length += lengthOf(hand, line);
                }
            }
            return length;
        }

        int fadesOn(int hand, int when) {
            switch (kindOf(hand)) {
                case SOFT: return 2;
                case ROUGH: return vOf(hand) % 2;
                case GLOVED: return when % 2;
                case MILKY: return 1;
                case FARMER: return vOf(hand) % 2 + 1;
                case TOLD: return when % 2 + partOf(hand, when % PARTS);
                default: return 1;
            }
        }

        /** What n days take off each line: no fading looks at a length, so that it can be taken off at once. */
        private int fadesOver(int hand, int n) {
            int faded = 0;
            for (int past = 0; past < n; past++) {
                faded += fadesOn(hand, day + past);
            }
            return faded;
        }

        int lengthBehind(int hand, int line, int n) {
            return Math.max(0, lengthOf(hand, line) - fadesOver(hand, n));
        }

        void goDays(int n) {
            for (int hand = 0; hand < hands; hand++) {
                int faded = fadesOver(hand, n);
                for (int line = 0; line < LINES; line++) {
                    putLength(hand, line, Math.max(0, lengthOf(hand, line) - faded));
                }
            }
            day += n;
        }

        int drawOn(int hand, int line, int n) {
            int before = lengthOf(hand, line);
            int more = Math.min(Math.min(n, ink), Math.max(0, holding.room - before));
            putLength(hand, line, before + more);
            ink -= more;
            return more;
        }

        int shakeHands(int one, int other) {
            if (!has(one) || !has(other)) {
                return 0;
            }
            shooks[one] = Math.min(MOST_SHOOK, shooks[one] + 1);
            shooks[other] = Math.min(MOST_SHOOK, shooks[other] + 1);
            if (wearsGloves(one) || wearsGloves(other)) {
                return 0;
            }
            int more = 0;
            for (int line = 0; line < LINES; line++) {
                more += printLine(one, other, line);
            }
            return more;
        }

        private boolean wearsGloves(int hand) {
            int kind = kindOf(hand);
            return kind == GLOVED || kind == TOLD;
        }

        private int printLine(int one, int other, int line) {
            int difference = lengthOf(one, line) - lengthOf(other, line);
            int shorter = difference < 0 ? one : other;
            int press = holding.press;
            int more = press > 0 ? Math.abs(difference) / press : 0;
            putLength(shorter, line, lengthOf(shorter, line) + more);
            return more;
        }
    }

    /**
     * What a text says of grace, room and press. Its tests stand ahead of what joins them, so that grace needs no
     * recursion: a step below NOT is a test (three times its letter, and its relation).
     */
    private static final class Booth {
        static final String LETTERS = "hlkvxd";
        static final String RELATIONS = "<=>";
        static final int NOT = 18, AND = 19, OR = 20, BLESS = 21, BLIGHT = 22;
        static final int ROOM_WITHOUT = 20, PRESS_WITHOUT = 4;

        private final int[] steps;
        private final int[] numbers;
        final int room;
        final int press;

        Booth(int[] steps, int[] numbers, int room, int press) {
            this.steps = steps;
            this.numbers = numbers;
            this.room = Math.min(LONGEST, room);
            this.press = Math.max(1, press);
        }

        int grace(int[] values) {
            int total = 0;
            // What held so far, the latest lowest: with at most 4 brackets about a test some ten bits are in use.
            int held = 0;
            for (int n = 0; n < steps.length && n < numbers.length; n++) {
                switch (steps[n]) {
                    case NOT:
                        held ^= 1;
                        break;
                    case AND:
                        held = (held >> 1) & (held | -2);
                        break;
                    case OR:
                        held = (held >> 1) | (held & 1);
                        break;
                    case BLESS:
                        total += (held & 1) * numbers[n];
                        held = 0;
                        break;
                    case BLIGHT:
                        total -= (held & 1) * numbers[n];
                        held = 0;
                        break;
                    default:
                        held = (held << 1) | (holds(steps[n], numbers[n], values) ? 1 : 0);
                        break;
                }
            }
            return total;
        }

        private static boolean holds(int test, int number, int[] values) {
            int letter = test / 3;
            if (letter < 0 || letter >= values.length) {
                return false;
            }
            switch (test % 3) {
                case 0: return values[letter] < number;
                case 1: return values[letter] == number;
                default: return values[letter] > number;
            }
        }
    }

    /**
     * The text that is fed, and what reads it. Every method that reads stops at the first byte that does not go on
     * as it must, and that place, which is the fault, stays in at.
     */
    private static final class Text {
        private static final int MOST_SIGNS = 100, MOST_CLAUSES = 10, DEEPEST = 4;

        private final byte[] signs = new byte[MOST_SIGNS];
        private final int[] steps = new int[MOST_SIGNS];
        private final int[] numbers = new int[MOST_SIGNS];
        private int size;
        private int at;
        private int made;
        private int room;
        private int press;

        boolean isFull() {
            return size >= signs.length;
        }

        int size() {
            return size;
        }

        int place() {
            return at;
        }

        void clear() {
            size = 0;
        }

        int add(int sign) {
            if (size < signs.length) {
                signs[size] = (byte) sign;
                size++;
            }
            return size;
        }

        boolean isBooth() {
            at = 0;
            made = 0;
            room = Booth.ROOM_WITHOUT;
            press = Booth.PRESS_WITHOUT;
            for (int n = 1; n <= MOST_CLAUSES; n++) {
                if (!isClause()) {
                    return false;
                }
                if (at >= size) {
                    return true;
                }
                if (n == MOST_CLAUSES || !take(';')) {
                    return false;
                }
            }
            return false;
        }

        Booth lastBooth() {
            return new Booth(Arrays.copyOf(steps, made), Arrays.copyOf(numbers, made), room, press);
        }

        private boolean isClause() {
            if (take('r')) {
                room = takeAll("oom ") ? takeNumber() : -1;
                return room >= 0;
            }
            if (take('p')) {
                press = takeAll("ress ") ? takeNumber() : -1;
                return press >= 0;
            }
            if (!takeAll("bl")) {
                return false;
            }
            boolean blesses = take('e');
            if (!takeAll(blesses ? "ss " : "ight ")) {
                return false;
            }
            int n = takeNumber();
            return n >= 0 && take(' ') && isEither(0) && emit(blesses ? Booth.BLESS : Booth.BLIGHT, n);
        }

        private boolean isEither(int depth) {
            if (!isBoth(depth)) {
                return false;
            }
            for (int n = 0; n < MOST_SIGNS && take('|'); n++) {
                if (!isBoth(depth) || !emit(Booth.OR, 0)) {
                    return false;
                }
            }
            return true;
        }

        private boolean isBoth(int depth) {
            if (!isOne(depth)) {
                return false;
            }
            for (int n = 0; n < MOST_SIGNS && take('&'); n++) {
                if (!isOne(depth) || !emit(Booth.AND, 0)) {
                    return false;
                }
            }
            return true;
        }

        /** Depth is how many ( and ! are about this one; with as many as there may be only a test can stand here. */
        private boolean isOne(int depth) {
            if (depth < DEEPEST && take('!')) {
                return isOne(depth + 1) && emit(Booth.NOT, 0);
            }
            if (depth < DEEPEST && take('(')) {
                return isEither(depth + 1) && take(')');
            }
            return isTest();
        }

        private boolean isTest() {
            int letter = takeOneOf(Booth.LETTERS);
            if (letter < 0) {
                return false;
            }
            int relation = takeOneOf(Booth.RELATIONS);
            if (relation < 0) {
                return false;
            }
            int n = takeNumber();
            return n >= 0 && emit(3 * letter + relation, n);
        }

        private boolean emit(int step, int number) {
            if (made >= steps.length || made >= numbers.length) {
                return false;
            }
            steps[made] = step;
            numbers[made] = number;
            made++;
            return true;
        }

        private boolean take(char sign) {
            if (at < 0 || at >= size || at >= signs.length || signs[at] != sign) {
                return false;
            }
            at++;
            return true;
        }

        private boolean takeAll(String word) {
            for (int n = 0; n < word.length(); n++) {
                if (!take(word.charAt(n))) {
                    return false;
                }
            }
            return true;
        }

        private int takeOneOf(String several) {
            if (at < 0 || at >= size || at >= signs.length) {
                return -1;
            }
            int which = several.indexOf((char) signs[at]);
            if (which >= 0) {
                at++;
            }
            return which;
        }

        /** A number of one or two digits; -1, if not one digit stands here. */
        private int takeNumber() {
            int number = -1;
            for (int digits = 0; digits < 2 && at >= 0 && at < size && at < signs.length; digits++) {
                int digit = signs[at] - '0';
                if (digit < 0 || digit > 9) {
                    break;
                }
                number = Math.max(0, number) * 10 + digit;
                at++;
            }
            return number;
        }
    }

    /** Rows of up to four numbers that are told by hand: what is seen, the fair, the book. */
    private static final class Ledger {
        private static final int MOST_ROWS = 10, WIDTH = 4;

        private final int[] numbers = new int[MOST_ROWS * WIDTH];
        int rows;

        int clear() {
            rows = 0;
            return rows;
        }

        int add(int first, int second, int third, int fourth) {
            if (rows >= 0 && rows < MOST_ROWS) {
                numbers[rows * WIDTH] = first;
                numbers[rows * WIDTH + 1] = second;
                numbers[rows * WIDTH + 2] = third;
                numbers[rows * WIDTH + 3] = fourth;
                rows++;
            }
            return rows;
        }

        int at(int row, int part) {
            boolean stands = row >= 0 && row < MOST_ROWS && part >= 0 && part < WIDTH;
            return stands ? numbers[row * WIDTH + part] : 0;
        }

        void become(Ledger other) {
            System.arraycopy(other.numbers, 0, numbers, 0, MOST_ROWS * WIDTH);
            rows = other.rows;
        }
    }

    /** What hands do, body by body: a body's tens are its kind's number and 1. */
    private static final class Acts {
        static final int LIES = 0, READS = 1, TELLS = 2, ACTS = 3;
        private static final int MOST_KEPT = 20, DEEPEST = 30;
        /** For each kind its lies, reads, tells; 0 where it has none of its own. */
        private static final int[] BODIES = {
            10, 11, 12,
            0, 20, 0,
            30, 0, 0,
            0, 0, 40,
            50, 51, 0,
            0, 0, 60,
            71, 70, 0};

        private final int[] bodies = new int[MOST_KEPT];
        private int ran;
        private int number;
        private int kind;
        private int v;

        void forget() {
            ran = 0;
        }

        int ran() {
            return ran;
        }

        boolean isKept(int i) {
            return i >= 0 && i < ran && i < MOST_KEPT;
        }

        int bodyAt(int i) {
            return isKept(i) ? bodies[i] : 0;
        }

        int begin(int number, int kind, int v, int act, int x) {
            this.number = number;
            this.kind = kind;
            this.v = v;
            return own(act, x, 0);
        }

        private int own(int act, int x, int depth) {
            return run(bodyFrom(kind, act), x, depth + 1);
        }

        private int above(int body, int act, int x, int depth) {
            int at = body / 10 - 1;
            return run(at >= 0 && at < KINDS ? bodyFrom(KIND_ABOVE[at], act) : 0, x, depth + 1);
        }

        private static int bodyFrom(int from, int act) {
            int at = from;
            for (int n = 0; n < KINDS && at >= 0 && at < KINDS && act >= 0 && act < ACTS; n++) {
                int body = BODIES[at * ACTS + act];
                if (body != 0) {
                    return body;
                }
                at = KIND_ABOVE[at];
            }
            return 0;
        }

        private int run(int body, int x, int depth) {
            if (depth > DEEPEST) {
                return 0;
            }
            begun(body);
            switch (body) {
                case 10: return x + number;
                case 11: return own(LIES, x, depth) - v;
                case 12: return own(READS, x, depth) * 2;
                case 20: return above(body, READS, x, depth) ^ 6;
                case 30: return above(body, LIES, x * 3, depth);
                case 40: return above(body, TELLS, x, depth) + own(READS, 1, depth);
                case 50: return -above(body, LIES, x, depth);
                case 51: return above(body, READS, x + 1, depth);
                case 60: return above(body, TELLS, x - number, depth);
                case 70: return above(body, READS, x, depth) + above(body, LIES, 2, depth);
                case 71: return above(body, LIES, x, depth) ^ v;
                default: return 0;
            }
        }

        private void begun(int body) {
            if (ran >= 0 && ran < MOST_KEPT) {
                bodies[ran] = body;
            }
            ran++;
        }
    }

    /** A row of items of one sort, or nothing. Each item is kept as wide as a long, cut to what its sort holds. */
    private static final class Tape {
        static final int OF_NOTHING = -1, BYTES = 0, SHORTS = 1, INTS = 2, BOOLEANS = 4;

        final long[] items = new long[LONGEST_TAPE];
        int sort = OF_NOTHING;
        private int size;

        void become(int sort, int size) {
            this.sort = sort;
            this.size = Math.max(0, Math.min(size, LONGEST_TAPE));
            Arrays.fill(items, 0L);
        }

        boolean holdsNothing() {
            return sort == OF_NOTHING;
        }

        boolean hasPlace(int i) {
            return i >= 0 && i < size && i < LONGEST_TAPE;
        }

        boolean hasSpan(int i, int n) {
            return i >= 0 && n >= 0 && i <= size - n;
        }

        long at(int i) {
            return hasPlace(i) ? items[i] : 0;
        }

        void put(int i, long v) {
            if (hasPlace(i)) {
                items[i] = cut(v);
            }
        }

        private long cut(long v) {
            switch (sort) {
                case BYTES: return (byte) v;
                case SHORTS: return (short) v;
                case INTS: return (int) v;
                case BOOLEANS: return v != 0 ? 1 : 0;
                default: return v;
            }
        }
    }
}
