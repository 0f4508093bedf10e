/** Each boundary that the document names for what is asked and told by hand (promises 15 to 27), a test for each sentence. */
public final class AskedBoundaryTest extends Sentences {
    private static final int[] NO_HAND = {-1, 2, 4, 5, MIN, MAX};
    private static final int[] NO_LINE = {-1, 3, 4, MIN, MAX};

    // ---- promise 15: pen

    @Of(promise = 15, says = "PEN. NONE;")
    private static void promise15HandNone() {
        PalmsAltered x = with(0, 1);
        for (int hand : NO_HAND) due("hand " + hand, x.pen(hand, 5), NONE);
        due("hand and n", x.pen(2, 0), NONE);
        due("hand and n", x.pen(-1, 10), NONE);
    }

    @Of(promise = 15, says = "BAD: n.")
    private static void promise15NBad() {
        PalmsAltered x = with(0);
        for (int n : new int[] {0, -1, 10, MIN, MAX}) due("n " + n, x.pen(0, n), BAD);
    }

    @Of(promise = 15, says = "PEN of one and n (1 .. 9)")
    private static void promise15TheLeastAndTheMostN() {
        PalmsAltered x = with(0);
        lengths(x, 0, 20, 19, 10);
        due("n 1", x.pen(0, 1), 1);
        due("n 2", x.pen(0, 2), 2);
        due("n 9", x.pen(0, 9), 2);
        lengths(x, 0, 20, 12, 11);
        due("n 8", x.pen(0, 8), 1);
        due("n 9", x.pen(0, 9), 2);
    }

    @Of(promise = 15, says = "so that its FORTUNE is greatest (of several the first)")
    private static void promise15TheFirstOfSeveral() {
        PalmsAltered x = with(0, 4);
        due("all are full", x.pen(0, 9), 0);
        lengths(x, 0, 5, 5, 5);
        due("all alike", x.pen(0, 9), 0);
        lengths(x, 0, 20, 5, 5);
        due("the last two alike", x.pen(0, 9), 1);
        lengths(x, 0, 20, 20, 5);
        due("the last", x.pen(0, 1), 2);
        x.ink(0);
        due("no ink", x.pen(0, 9), 0);
        x.ink(99);
        lengths(x, 1, 20, 20, 5);
        due("milky", x.pen(1, 9), 0);
        lengths(x, 0, 0, 0, 0);
        build(x, "blight 9 l<2;room 1");
        due("from no fortune to 1", x.pen(0, 9), 2);
        build(x, "blight 9 l<3;room 1");
        due("no fortune at all", x.pen(0, 9), 0);
        build(x, "blight 50 x>10");
        lengths(x, 0, 10, 20, 10);
        due("where it is not less", x.pen(0, 1), 1);
        lengths(x, 0, 10, 10, 10);
        due("all less by it", x.pen(0, 1), 0);
    }

    // ---- promise 16: share

    @Of(promise = 16, says = "NONE: hand, k (-1 .. 2)")
    private static void promise16HandAndKNone() {
        PalmsAltered x = with(0, 1);
        for (int hand : NO_HAND) due("hand " + hand, x.share(hand, 5, 0), NONE);
        for (int k : new int[] {-2, 3, MIN, MAX}) due("k " + k, x.share(0, 5, k), NONE);
        due("hand and n", x.share(2, 13, 0), NONE);
        due("k and n", x.share(0, -1, 3), NONE);
        lengths(x, 0, 0, 0, 0);
        int[] stands = {5, 5, 0, 0};
        for (int k = -1; k < 3; k++) due("k " + k, x.share(0, 5, k), stands[k + 1]);
    }

    @Of(promise = 16, says = "BAD: n.")
    private static void promise16NBad() {
        PalmsAltered x = with(0);
        for (int n : new int[] {-1, 13, MIN, MAX}) for (int k = -1; k < 3; k++) due("n " + n, x.share(0, n, k), BAD);
    }

    @Of(promise = 16, says = "SHARE of one and n (0 .. 12)")
    private static void promise16TheLeastAndTheMostN() {
        PalmsAltered x = with(0);
        lengths(x, 0, 18, 17, 0);
        int[] none = {35, 0, 0, 0};
        int[] most = {47, 2, 3, 7};
        for (int k = -1; k < 3; k++) {
            due("n 0, k " + k, x.share(0, 0, k), none[k + 1]);
            due("n 12, k " + k, x.share(0, 12, k), most[k + 1]);
        }
        x.set(0, 2, 20);
        int[] beyond = {60, 9, 3, 0};
        for (int k = -1; k < 3; k++) due("more than there is room, k " + k, x.share(0, 12, k), beyond[k + 1]);
    }

    @Of(promise = 16, says = "(of several the one by which LINE 0 is DRAWN on by most, then LINE 1)")
    private static void promise16OfSeveralWays() {
        PalmsAltered x = with(0, 4);
        due("all full, on the first", x.share(0, 12, 0), 12);
        due("all full, on the second", x.share(0, 12, 1), 0);
        lengths(x, 0, 5, 5, 5);
        due("all alike, on the first", x.share(0, 12, 0), 12);
        lengths(x, 0, 20, 5, 5);
        due("the first is full", x.share(0, 12, 0), 0);
        due("then the second by most", x.share(0, 12, 1), 12);
        due("none is left", x.share(0, 12, 2), 0);
        x.ink(3);
        int[] inked = {33, 9, 3, 0};
        for (int k = -1; k < 3; k++) due("as there is ink, k " + k, x.share(0, 12, k), inked[k + 1]);
        int[] milky = {0, 7, 0, 0};
        for (int k = -1; k < 3; k++) due("milky, k " + k, x.share(1, 7, k), milky[k + 1]);
        x.ink(99);
        build(x, "blight 9 l=0&x>0;bless 5 l=2&x>2");
        lengths(x, 0, 0, 5, 1);
        int[] graced = {15, 0, 2, 2};
        for (int k = -1; k < 3; k++) due("by grace, k " + k, x.share(0, 4, k), graced[k + 1]);
    }

    @Of(promise = 16, says = "SHARE: k -1 FORTUNE then, else by how much LINE k.")
    private static void promise16FortuneThen() {
        PalmsAltered x = with(0, 1);
        lengths(x, 1, 0, 20, 13);
        int[] soft = {33 + 5 + 9, 9, 0, 0};
        for (int k = -1; k < 3; k++) due("soft, k " + k, x.share(1, 9, k), soft[k + 1]);
        build(x, "bless 9 x=15");
        int[] blessed = {24 + 20 + 14 + 5, 8, 0, 1};
        lengths(x, 1, 7, 20, 13);
        for (int k = -1; k < 3; k++) due("blessed, k " + k, x.share(1, 9, k), blessed[k + 1]);
    }

    // ---- promise 17: meet

    @Of(promise = 17, says = "MEET; -5.")
    private static void promise17NoTwo() {
        due("no hands", new PalmsAltered().meet(), -5);
        due("one", with(0).meet(), -5);
        due("two alike", with(0, 0).meet(), -5);
        due("five alike", with(0, 1, 2, 4, 5).meet(), -5);
    }

    @Of(promise = 17, says = "so that FORTUNE of all, together, is greatest, if greater than it is")
    private static void promise17IfGreaterThanItIs() {
        PalmsAltered x = with(0, 0);
        x.set(0, 0, 27);
        due("3 by 4 is none", x.meet(), -5);
        x.set(0, 0, 26);
        due("4 by 4 is one", x.meet(), 1);
        build(x, "blight 1 x=27");
        due("just as much as it is", x.meet(), -5);
        build(x, "blight 2 x=27");
        due("less than it is", x.meet(), -5);
        PalmsAltered y = with(4, 0);
        lengths(y, 0, 2, 2, 2);
        due("only the milky one is longer", y.meet(), -5);
        PalmsAltered z = with(0, 3, 6);
        lengths(z, 0, 2, 2, 2);
        due("gloves", z.meet(), -5);
    }

    @Of(promise = 17, says = "(10 times the lesser and the greater number; of several the first; -5: none)")
    private static void promise17TheFirstOfSeveral() {
        PalmsAltered x = with(0, 0, 0, 0, 0);
        lengths(x, 4, 10, 10, 10);
        due("the last with any", x.meet(), 4);
        lengths(x, 3, 10, 10, 10);
        due("the last two with any", x.meet(), 3);
        lengths(x, 3, 50, 50, 50);
        due("the last two", x.meet(), 34);
        lengths(x, 0, 10, 10, 10);
        due("the first and the fourth", x.meet(), 3);
        lengths(x, 0, 9, 10, 10);
        lengths(x, 4, 6, 10, 10);
        due("more than the first", x.meet(), 34);
    }

    // ---- promise 18: book

    @Of(promise = 18, says = "(hand -1: it is empty then, 0, whatever the others are)")
    private static void promise18Emptied() {
        PalmsAltered x = with(0);
        due("empty as it is", x.book(-1, 0, 0), 0);
        int[][] others = {{0, 0}, {3, 61}, {-1, -1}, {MIN, MAX}, {MAX, MIN}};
        for (int[] other : others) {
            due("a row", x.book(0, 0, 7), 1);
            due("another", x.book(0, 1, 7), 2);
            due("book(-1, " + other[0] + ", " + other[1] + ")", x.book(-1, other[0], other[1]), 0);
            due("how many", x.count(4), 0);
            due("looked", x.looked(), -5);
        }
        for (int n = 1; n < 9; n++) x.book(0, 0, 7);
        due("full", x.book(-1, 0, 0), 0);
        due("the first again", x.book(0, 0, 7), 1);
        due("with no hands", new PalmsAltered().book(-1, 9, 99), 0);
    }

    @Of(promise = 18, says = "NONE: hand, line")
    private static void promise18HandAndLineNone() {
        PalmsAltered x = with(0, 1);
        for (int hand : new int[] {-2, 2, 4, 5, MIN, MAX}) due("hand " + hand, x.book(hand, 0, 0), NONE);
        for (int line : NO_LINE) due("line " + line, x.book(0, line, 0), NONE);
        due("how many", x.count(4), 0);
    }

    @Of(promise = 18, says = "BAD: length")
    private static void promise18LengthBad() {
        PalmsAltered x = with(0);
        for (int length : new int[] {-1, 61, MIN, MAX}) due("length " + length, x.book(0, 0, length), BAD);
        due("how many", x.count(4), 0);
    }

    @Of(promise = 18, says = "LENGTHS (0 .. 60; 8 at most)")
    private static void promise18TheLeastAndTheMostLength() {
        PalmsAltered x = one(0, 0, 60);
        due("60", x.book(0, 0, 60), 1);
        due("so", x.looked(), -5);
        x.set(0, 2, 0);
        due("0", x.book(0, 2, 0), 2);
        due("so", x.looked(), -5);
        for (int n = 3; n <= 8; n++) due("as many as 8", x.book(0, 0, 60), n);
        due("how many", x.count(4), 8);
    }

    @Of(promise = 18, says = "FULL: 8.")
    private static void promise18FullWithEight() {
        PalmsAltered x = with(0);
        for (int n = 1; n <= 8; n++) due("row", x.book(0, 0, 30), n);
        due("a ninth", x.book(0, 0, 1), FULL);
        due("again", x.book(0, 1, 1), FULL);
        due("how many", x.count(4), 8);
        due("none of it is otherwise", x.looked(), -5);
    }

    @Of(promise = 18, says = "the first that a call's words name")
    private static void promise18WhichRefusalComesFirst() {
        PalmsAltered x = with(0);
        due("hand and length", x.book(1, 0, 61), NONE);
        due("line and length", x.book(0, 3, -1), NONE);
        for (int n = 1; n <= 8; n++) x.book(0, 0, 30);
        due("hand, and full", x.book(1, 0, 0), NONE);
        due("line, and full", x.book(0, -1, 0), NONE);
        due("length, and full", x.book(0, 0, 61), BAD);
    }

    // ---- promise 19: looked

    @Of(promise = 19, says = "LOOKED at; -5.")
    private static void promise19AllIsSo() {
        due("no hands", new PalmsAltered().looked(), -5);
        PalmsAltered x = with(0);
        due("an empty book", x.looked(), -5);
        x.book(0, 0, 30);
        due("so", x.looked(), -5);
        x.set(0, 1, 3);
        due("what it does not tell of", x.looked(), -5);
    }

    @Of(promise = 19, says = "the number of the first of these rows by which it is otherwise now (-5: none)")
    private static void promise19TheFirstRow() {
        PalmsAltered x = with(0, 0, 0, 0, 0);
        for (int n = 0; n < 7; n++) x.book(n % 5, n % 3, 30);
        x.book(4, 2, 30);
        due("none", x.looked(), -5);
        x.set(4, 2, 29);
        due("the last of 8", x.looked(), 7);
        x.set(1, 0, 31);
        due("an earlier one", x.looked(), 6);
        x.set(0, 0, 0);
        due("the first", x.looked(), 0);
        x.set(0, 0, 30);
        x.set(1, 0, 30);
        x.set(4, 2, 30);
        due("none again", x.looked(), -5);
        x.book(4, 2, 29);
        due("two that can't both be", x.looked(), -5);
        x.book(-1, 0, 0);
        x.book(4, 2, 30);
        x.book(4, 2, 29);
        due("two that can't both be", x.looked(), 1);
    }

    // ---- promise 20: shaken

    @Of(promise = 20, says = "NONE: k (-1 .. 2)")
    private static void promise20KNone() {
        PalmsAltered x = with(0, 0);
        for (int k : new int[] {-2, 3, MIN, MAX}) due("k " + k, x.shaken(k), NONE);
        int[] stands = {0, -5, -5, -5};
        for (int k = -1; k < 3; k++) due("k " + k, x.shaken(k), stands[k + 1]);
        x.book(0, 0, 0);
        for (int k : new int[] {-2, 3, MIN, MAX}) due("k " + k + ", and by no so few", x.shaken(k), NONE);
    }

    @Of(promise = 20, says = "SHAKEN: the fewest SHAKES (0 .. 3;")
    private static void promise20TheFewestShakes() {
        // by half each time: 0, 30, 45, 52, 56
        int[] length = {0, 30, 45, 52};
        PalmsAltered x = one(0, 0, 60);
        x.hand(0, 0, 60);
        x.set(1, 0, 0);
        build(x, "press 2");
        for (int many = 0; many < 4; many++) {
            x.book(-1, 0, 0);
            x.book(1, 0, length[many]);
            due("how many for " + length[many], x.shaken(-1), many);
            for (int k = 0; k < 3; k++) due("k " + k + " of " + many, x.shaken(k), k < many ? 1 : -5);
        }
        due("no hands, no book", new PalmsAltered().shaken(-1), 0);
    }

    @Of(promise = 20, says = "(-5: by no so few)")
    private static void promise20ByNoSoFew() {
        PalmsAltered x = one(0, 0, 60);
        x.hand(0, 0, 60);
        x.set(1, 0, 0);
        build(x, "press 2");
        x.book(1, 0, 56);
        for (int k = -1; k < 3; k++) due("by four, k " + k, x.shaken(k), -5);
        x.book(-1, 0, 0);
        x.book(1, 0, 1);
        for (int k = -1; k < 3; k++) due("never, k " + k, x.shaken(k), -5);
        PalmsAltered y = with(0);
        y.book(0, 0, 31);
        for (int k = -1; k < 3; k++) due("one alone, k " + k, y.shaken(k), -5);
        PalmsAltered z = with(3, 0);
        z.set(0, 0, 2);
        z.book(0, 0, 9);
        for (int k = -1; k < 3; k++) due("gloves, k " + k, z.shaken(k), -5);
    }

    @Of(promise = 20, says = "k -1 how many, else the k-th (-5: there are fewer); -5.")
    private static void promise20TheKth() {
        PalmsAltered x = with(0, 0, 0);
        lengths(x, 0, 40, 30, 30);
        lengths(x, 1, 0, 30, 30);
        lengths(x, 2, 0, 30, 30);
        int[] none = {0, -5, -5, -5};
        for (int k = -1; k < 3; k++) due("none, k " + k, x.shaken(k), none[k + 1]);
        x.book(1, 0, 10);
        int[] once = {1, 1, -5, -5};
        for (int k = -1; k < 3; k++) due("once, k " + k, x.shaken(k), once[k + 1]);
        x.book(2, 0, 2);
        int[] twice = {2, 1, 12, -5};
        for (int k = -1; k < 3; k++) due("twice, k " + k, x.shaken(k), twice[k + 1]);
        x.book(-1, 0, 0);
        x.book(1, 0, 10);
        x.book(2, 0, 11);
        int[] thrice = {3, 1, 12, 2};
        for (int k = -1; k < 3; k++) due("thrice, k " + k, x.shaken(k), thrice[k + 1]);
        x.book(0, 0, 39);
        for (int k = -1; k < 3; k++) due("never, k " + k, x.shaken(k), -5);
    }

    @Of(promise = 20, says = "10 times the lesser and the greater number (of several rows with so many the first)")
    private static void promise20TheFirstOfSeveralRows() {
        PalmsAltered x = with(0, 0, 0, 0, 0);
        x.set(4, 0, 10);
        x.book(4, 0, 15);
        due("any with the last", x.shaken(0), 4);
        x.set(3, 1, 10);
        x.book(3, 1, 15);
        due("the last two", x.shaken(-1), 1);
        due("the last two", x.shaken(0), 34);
        x.set(2, 2, 10);
        x.book(2, 2, 15);
        int[] rows = {2, 2, 34, -5};
        for (int k = -1; k < 3; k++) due("one behind the other, k " + k, x.shaken(k), rows[k + 1]);
        PalmsAltered y = with(0, 0, 0, 0);
        y.set(1, 0, 10);
        y.set(3, 0, 10);
        y.book(1, 0, 15);
        y.book(3, 0, 15);
        int[] first = {2, 1, 3, -5};
        for (int k = -1; k < 3; k++) due("with the first of all, k " + k, y.shaken(k), first[k + 1]);
    }

    // ---- promise 21: see

    @Of(promise = 21, says = "(hand -1: none then, 0, whatever the others are)")
    private static void promise21NoneThen() {
        PalmsAltered x = with(0);
        due("none as it is", x.see(-1, 0, 0, 0), 0);
        int[][] others = {{0, 0, 0}, {3, 61, 21}, {-1, -1, -1}, {MIN, MAX, MIN}, {MAX, MIN, MAX}};
        for (int[] other : others) {
            due("a row", x.see(0, 0, 7, 1), 1);
            due("another", x.see(0, 1, 7, 1), 2);
            due("see(-1, ..)", x.see(-1, other[0], other[1], other[2]), 0);
            due("how many", x.count(2), 0);
            due("was", x.was(0, 0, 0), 61);
        }
        for (int n = 1; n < 6; n++) x.see(0, 0, 7, 1);
        due("full", x.see(-1, 0, 0, 0), 0);
        due("the first again", x.see(0, 0, 7, 1), 1);
        due("with no hands", new PalmsAltered().see(-1, 9, 99, 99), 0);
    }

    @Of(promise = 21, says = "NONE: hand, line")
    private static void promise21HandAndLineNone() {
        PalmsAltered x = with(0, 1);
        for (int hand : new int[] {-2, 2, 4, 5, MIN, MAX}) due("hand " + hand, x.see(hand, 0, 0, 0), NONE);
        for (int line : NO_LINE) due("line " + line, x.see(0, line, 0, 0), NONE);
        due("how many", x.count(2), 0);
    }

    @Of(promise = 21, says = "BAD: length, n")
    private static void promise21LengthAndNBad() {
        PalmsAltered x = with(0);
        for (int length : new int[] {-1, 61, MIN, MAX}) due("length " + length, x.see(0, 0, length, 0), BAD);
        for (int n : new int[] {-1, 21, 60, MIN, MAX}) due("n " + n, x.see(0, 0, 0, n), BAD);
        due("how many", x.count(2), 0);
    }

    @Of(promise = 21, says = "its LENGTH (0 .. 60) behind n DAYS (0 .. 20) from now (5 at most)")
    private static void promise21TheLeastAndTheMost() {
        PalmsAltered x = one(0, 0, 60);
        due("60 behind 0", x.see(0, 0, 60, 0), 1);
        due("what it was", x.was(0, 0, 1), 60);
        due("40 behind 20", x.see(0, 0, 40, 20), 2);
        due("what it was", x.was(0, 0, 1), 60);
        due("another line", x.see(0, 1, 40, 20), 3);
        due("what it was", x.was(0, 1, 1), 60);
        due("as many as 5", x.see(0, 0, 59, 1), 4);
        due("as many as 5", x.see(0, 0, 58, 2), 5);
        due("how many", x.count(2), 5);
        due("what it was", x.was(0, 0, 0), 1);
        due("none", x.see(-1, 0, 0, 0), 0);
        due("0 behind 0", x.see(0, 0, 0, 0), 1);
        due("what it was", x.was(0, 0, 1), 0);
        due("how many", x.was(0, 0, 0), 1);
        x.see(-1, 0, 0, 0);
        due("0 behind 20", x.see(0, 0, 0, 20), 1);
        due("what it was", x.was(0, 0, 0), 21);
    }

    @Of(promise = 21, says = "FULL: 5.")
    private static void promise21FullWithFive() {
        PalmsAltered x = with(0);
        for (int n = 1; n <= 5; n++) due("row", x.see(0, 0, 30, 0), n);
        due("a sixth", x.see(0, 0, 1, 0), FULL);
        due("again", x.see(0, 1, 1, 0), FULL);
        due("how many", x.count(2), 5);
        due("what it was", x.was(0, 0, 1), 30);
    }

    @Of(promise = 21, says = "the first that a call's words name")
    private static void promise21WhichRefusalComesFirst() {
        PalmsAltered x = with(0);
        due("hand, length and n", x.see(1, 0, 61, 21), NONE);
        due("line, length and n", x.see(0, 3, -1, -1), NONE);
        for (int n = 1; n <= 5; n++) x.see(0, 0, 30, 0);
        due("hand, and full", x.see(1, 0, 0, 0), NONE);
        due("line, and full", x.see(0, 3, 0, 0), NONE);
        due("length, and full", x.see(0, 0, 61, 0), BAD);
        due("n, and full", x.see(0, 0, 0, 21), BAD);
    }

    // ---- promise 22: was

    @Of(promise = 22, says = "NONE: hand, line, what.")
    private static void promise22HandLineAndWhatNone() {
        PalmsAltered x = with(0, 1);
        for (int hand : NO_HAND) due("hand " + hand, x.was(hand, 0, 0), NONE);
        for (int line : NO_LINE) due("line " + line, x.was(0, line, 0), NONE);
        for (int what : new int[] {-1, 2, MIN, MAX}) due("what " + what, x.was(0, 0, what), NONE);
    }

    @Of(promise = 22, says = "what 0 how many, 1 the least; -5.")
    private static void promise22NoneAtAll() {
        PalmsAltered x = with(1, 0);
        x.see(0, 0, 21, 20);
        due("60 would be 20", x.was(0, 0, 0), 0);
        due("60 would be 20", x.was(0, 0, 1), -5);
        x.see(-1, 0, 0, 0);
        x.see(0, 0, 5, 0);
        x.see(0, 0, 6, 0);
        due("two that can't both be", x.was(0, 0, 0), 0);
        due("two that can't both be", x.was(0, 0, 1), -5);
        x.see(-1, 0, 0, 0);
        x.see(1, 0, 29, 0);
        due("another is otherwise", x.was(0, 0, 0), 0);
        due("another is otherwise", x.was(0, 0, 1), -5);
        due("that other one", x.was(1, 0, 0), 1);
        due("that other one", x.was(1, 0, 1), 29);
    }

    @Of(promise = 22, says = "how many numbers (0 .. 60) there are by which, were that its LENGTH now, all of SEEN is so; the least (-5: none)")
    private static void promise22TheLeastAndTheMostNumber() {
        PalmsAltered x = with(1, 0);
        due("nothing seen", x.was(0, 0, 0), 61);
        due("nothing seen", x.was(0, 0, 1), 0);
        x.see(0, 0, 20, 20);
        due("60 alone", x.was(0, 0, 0), 1);
        due("60 alone", x.was(0, 0, 1), 60);
        x.see(-1, 0, 0, 0);
        x.see(0, 0, 0, 20);
        due("0 to 40", x.was(0, 0, 0), 41);
        due("0 to 40", x.was(0, 0, 1), 0);
        x.see(0, 0, 2, 19);
        due("40 alone", x.was(0, 0, 0), 1);
        due("40 alone", x.was(0, 0, 1), 40);
        x.see(-1, 0, 0, 0);
        x.see(1, 1, 30, 0);
        due("what is so by another", x.was(0, 0, 0), 61);
        x.see(0, 1, 30, 0);
        due("what is so by another line", x.was(0, 0, 0), 61);
        due("that line", x.was(0, 1, 0), 1);
    }

    @Of(promise = 22, says = "goes on from how all is (DAYS beyond 9999, too), and changes nothing.")
    private static void promise22DaysBeyond9999() {
        PalmsAltered x = with(3, 6);
        goTo(x, 9999);
        x.row(1, 0, 9);
        x.see(0, 0, 10, 3);
        due("2 of 3 days are odd", x.was(0, 0, 1), 12);
        x.see(-1, 0, 0, 0);
        x.see(1, 2, 10, 2);
        due("day 10000 is its row's first", x.was(1, 2, 1), 10 + 1 + 9);
        due("day", x.told(0), 9999);
    }

    // ---- promise 23: can

    @Of(promise = 23, says = "NONE.")
    private static void promise23HandAndWhatNone() {
        PalmsAltered x = with(0, 1);
        for (int hand : NO_HAND) due("hand " + hand, x.can(hand, 0), NONE);
        for (int what : new int[] {-1, 2, MIN, MAX}) due("what " + what, x.can(0, what), NONE);
    }

    @Of(promise = 23, says = "what 0 how many, 1 the least; -5.")
    private static void promise23NoneAtAll() {
        PalmsAltered x = with(2, 0);
        x.see(0, 0, 28, 1);
        due("no v makes that", x.can(0, 0), 0);
        due("no v makes that", x.can(0, 1), -5);
        x.see(-1, 0, 0, 0);
        x.see(0, 0, 30, 1);
        x.see(0, 0, 29, 1);
        due("two that can't both be", x.can(0, 0), 0);
        due("two that can't both be", x.can(0, 1), -5);
        x.see(-1, 0, 0, 0);
        x.see(1, 0, 30, 1);
        due("another is otherwise", x.can(0, 0), 0);
        due("another is otherwise", x.can(0, 1), -5);
    }

    @Of(promise = 23, says = "how many numbers v (0 .. 9) there are by which, were that its v now, all of SEEN is so; the least (-5: none)")
    private static void promise23TheLeastAndTheMostV() {
        for (int kind = 0; kind < 7; kind++) {
            PalmsAltered x = with(kind);
            due("nothing seen, kind " + kind, x.can(0, 0), 10);
            due("nothing seen, kind " + kind, x.can(0, 1), 0);
            x.see(0, 0, 30, 0);
            due("as it is, kind " + kind, x.can(0, 0), 10);
            due("as it is, kind " + kind, x.can(0, 1), 0);
        }
        PalmsAltered y = with(2, 5);
        y.see(0, 0, 29, 1);
        due("rough, 1 to 9", y.can(0, 0), 5);
        due("rough, 1 to 9", y.can(0, 1), 1);
        y.see(1, 0, 28, 1);
        due("farmer, 1 to 9", y.can(1, 0), 5);
        due("farmer, 1 to 9", y.can(1, 1), 1);
        y.see(-1, 0, 0, 0);
        y.see(0, 0, 30, 20);
        due("rough, 0 to 8", y.can(0, 0), 5);
        due("rough, 0 to 8", y.can(0, 1), 0);
        y.see(-1, 0, 0, 0);
        y.see(1, 0, 10, 20);
        due("farmer, 0 to 8", y.can(1, 0), 5);
        due("farmer, 0 to 8", y.can(1, 1), 0);
    }

    @Of(promise = 23, says = "goes on from how all is (DAYS beyond 9999, too), and changes nothing.")
    private static void promise23DaysBeyond9999() {
        PalmsAltered x = with(2, 3);
        goTo(x, 9999);
        lengths(x, 0, 60, 60, 60);
        lengths(x, 1, 60, 60, 60);
        x.see(0, 0, 57, 3);
        x.see(1, 0, 58, 3);
        due("odd ones", x.can(0, 0), 5);
        due("the least of them", x.can(0, 1), 1);
        due("its v", x.of(0, 1), 5);
        due("day", x.told(0), 9999);
    }

    // ---- promise 24: odds

    @Of(promise = 24, says = "ODDS; part 0 above, 1 below the line. NO.")
    private static void promise24NoSuchPart() {
        PalmsAltered x = with(0, 0);
        due("part 0", x.odds(0, 0), 1);
        due("part 1", x.odds(0, 1), 1);
        for (int part : new int[] {-1, 2, MIN, MAX}) due("part " + part, x.odds(0, part), NO);
    }

    @Of(promise = 24, says = "ODDS of q (0 .. 999)")
    private static void promise24TheLeastAndTheMostQ() {
        PalmsAltered x = with(0, 0);
        for (int q : new int[] {-1, 1000, MIN, MAX}) for (int part = 0; part < 2; part++) due("q " + q, x.odds(q, part), NO);
        due("q 0", x.odds(0, 0), 1);
        due("q 999", x.odds(999, 0), 0);
        due("q 999", x.odds(999, 1), 1);
        build(x, "bless 99 h=0;bless 99 h=0;bless 99 h=0;bless 99 h=0;bless 99 h=0;bless 99 h=0;bless 99 h=0");
        due("q 999, with more", x.odds(999, 0), 1);
        due("q 1000, with more", x.odds(1000, 0), NO);
    }

    @Of(promise = 24, says = "how likely FORTUNE of all, together, is q or more then")
    private static void promise24JustAsMuch() {
        PalmsAltered x = with(0, 0);
        x.set(0, 0, 10);
        // 160, and 5 more by the shake
        due("165", x.odds(165, 0), 1);
        due("165", x.odds(165, 1), 1);
        due("166", x.odds(166, 0), 0);
        due("166", x.odds(166, 1), 1);
        due("164", x.odds(164, 0), 1);
    }

    @Of(promise = 24, says = "a fraction in lowest terms (NO: there are fewer than two)")
    private static void promise24FewerThanTwo() {
        for (int part = 0; part < 2; part++) {
            due("no hands", new PalmsAltered().odds(0, part), NO);
            due("one", with(0).odds(0, part), NO);
            due("two", with(0, 0).odds(0, part), 1);
        }
    }

    @Of(promise = 24, says = "each two alike likely")
    private static void promise24LowestTerms() {
        PalmsAltered x = with(0, 0, 0, 0, 0);
        for (int hand = 1; hand < 5; hand++) lengths(x, hand, 40, 40, 40);
        lengths(x, 0, 0, 0, 0);
        int[][] odds = {{480, 1, 1}, {481, 2, 5}, {510, 2, 5}, {511, 0, 1}};
        for (int[] of : odds) for (int part = 0; part < 2; part++) due("four of ten, q " + of[0], x.odds(of[0], part), of[part + 1]);
        PalmsAltered y = with(0, 3, 0, 0, 0);
        lengths(y, 0, 0, 0, 0);
        due("three of ten above", y.odds(361, 0), 3);
        due("three of ten below", y.odds(361, 1), 10);
        PalmsAltered z = with(0, 0, 0, 0);
        lengths(z, 0, 0, 0, 0);
        due("three of six above", z.odds(271, 0), 1);
        due("three of six below", z.odds(271, 1), 2);
        PalmsAltered w = with(0, 0, 0);
        lengths(w, 2, 0, 0, 0);
        due("two of three above", w.odds(181, 0), 2);
        due("two of three below", w.odds(181, 1), 3);
    }

    // ---- promise 25: mean

    @Of(promise = 25, says = "MEAN; part likewise. NO.")
    private static void promise25NoSuchPart() {
        PalmsAltered x = with(0, 1);
        due("part 0", x.mean(0, 0), 185);
        due("part 1", x.mean(0, 1), 2);
        for (int part : new int[] {-1, 2, MIN, MAX}) due("part " + part, x.mean(0, part), NO);
    }

    @Of(promise = 25, says = "MEAN of n DAYS (0 .. 60)")
    private static void promise25TheLeastAndTheMostN() {
        PalmsAltered x = one(3, 0, 60);
        for (int n : new int[] {-1, 61, MIN, MAX}) for (int part = 0; part < 2; part++) due("n " + n, x.mean(n, part), NO);
        due("n 0", x.mean(0, 0), 180);
        due("n 60", x.mean(60, 0), 90);
        due("n 60", x.mean(60, 1), 1);
    }

    @Of(promise = 25, says = "by how many they are: a fraction in lowest terms (NO: there are none)")
    private static void promise25LowestTerms() {
        for (int n : new int[] {0, 60}) for (int part = 0; part < 2; part++) due("no hands", new PalmsAltered().mean(n, part), NO);
        due("one", with(0).mean(0, 0), 90);
        due("one", with(0).mean(0, 1), 1);
        PalmsAltered x = new PalmsAltered();
        for (int hand = 0; hand < 5; hand++) x.hand(0, 0, 0);
        int[][] means = {{0, 0, 1}, {7, 7, 5}, {10, 2, 1}, {5, 1, 1}, {1, 1, 5}, {60, 12, 1}};
        for (int[] mean : means) {
            x.set(2, 1, mean[0]);
            for (int part = 0; part < 2; part++) due(mean[0] + " of five", x.mean(0, part), mean[part + 1]);
        }
        PalmsAltered y = new PalmsAltered();
        for (int hand = 0; hand < 4; hand++) y.hand(0, 0, 0);
        y.set(3, 2, 6);
        due("6 of four", y.mean(0, 0), 3);
        due("6 of four", y.mean(0, 1), 2);
        due("none behind 6", y.mean(6, 0), 0);
        due("none behind 6", y.mean(6, 1), 1);
    }

    @Of(promise = 25, says = "goes on from how all is (DAYS beyond 9999, too), and changes nothing.")
    private static void promise25DaysBeyond9999() {
        PalmsAltered x = with(3);
        goTo(x, 9999);
        lengths(x, 0, 60, 60, 60);
        int[] less = {0, 1, 1, 2, 2};
        for (int n = 0; n < 5; n++) due("behind " + n, x.mean(n, 0), 180 - 3 * less[n]);
        due("behind 60", x.mean(60, 0), 90);
        due("day", x.told(0), 9999);
    }

    // ---- promise 26: fair

    @Of(promise = 26, says = "one -1: it is empty then, 0, whatever the other is")
    private static void promise26Emptied() {
        PalmsAltered x = with(0, 0);
        due("empty as it is", x.fair(-1, 0), 0);
        for (int other : new int[] {0, -1, 5, 9, MIN, MAX}) {
            due("a row", x.fair(0, 1), 1);
            due("another", x.fair(5, 0), 2);
            due("fair(-1, " + other + ")", x.fair(-1, other), 0);
            due("how many", x.count(3), 0);
            due("what goes", x.ends(1), 180);
        }
        for (int n = 1; n < 11; n++) x.fair(5, 0);
        due("full", x.fair(-1, 0), 0);
        due("the first again", x.fair(1, 0), 1);
        due("with no hands", new PalmsAltered().fair(-1, 9), 0);
    }

    @Of(promise = 26, says = "5: a DAY, the other not looked at")
    private static void promise26ADay() {
        PalmsAltered x = with(0);
        int[] others = {0, 5, -1, 4, 6, MIN, MAX};
        for (int n = 0; n < others.length; n++) due("fair(5, " + others[n] + ")", x.fair(5, others[n]), n + 1);
        due("seven days go", x.ends(1), 90 - 21);
        due("with no hands", new PalmsAltered().fair(5, 0), 1);
    }

    @Of(promise = 26, says = "NONE;")
    private static void promise26HandsNone() {
        PalmsAltered x = with(0, 0);
        for (int hand : new int[] {-2, 2, 3, 4, 6, MIN, MAX}) due("one " + hand, x.fair(hand, 0), NONE);
        for (int hand : new int[] {-2, -1, 2, 3, 4, 5, 6, MIN, MAX}) due("other " + hand, x.fair(0, hand), NONE);
        due("both", x.fair(2, 2), NONE);
        due("how many", x.count(3), 0);
    }

    @Of(promise = 26, says = "BAD: one is both")
    private static void promise26OneIsBoth() {
        PalmsAltered x = with(0, 0);
        due("fair(0, 0)", x.fair(0, 0), BAD);
        due("fair(1, 1)", x.fair(1, 1), BAD);
        due("how many", x.count(3), 0);
        due("a day twice is none", x.fair(5, 5), 1);
    }

    @Of(promise = 26, says = "FULL: 10.")
    private static void promise26FullWithTen() {
        PalmsAltered x = with(0, 0);
        for (int n = 1; n <= 10; n++) due("row", n % 2 == 0 ? x.fair(5, 0) : x.fair(1, 0), n);
        due("an eleventh", x.fair(0, 1), FULL);
        due("a day as the eleventh", x.fair(5, 0), FULL);
        due("how many", x.count(3), 10);
        due("five days go", x.ends(1), 180 - 30);
    }

    @Of(promise = 26, says = "the first that a call's words name")
    private static void promise26WhichRefusalComesFirst() {
        PalmsAltered x = with(0, 0);
        for (int n = 1; n <= 10; n++) x.fair(0, 1);
        due("none, both and full", x.fair(3, 3), NONE);
        due("other none, and full", x.fair(0, 5), NONE);
        due("both, and full", x.fair(1, 1), BAD);
    }

    // ---- promise 27: ends

    @Of(promise = 27, says = "NONE.")
    private static void promise27WhatNone() {
        PalmsAltered x = with(0);
        for (int what : new int[] {-1, 2, MIN, MAX}) due("ends(" + what + ")", x.ends(what), NONE);
        due("ends(0)", x.ends(0), 90);
        due("ends(1)", x.ends(1), 90);
    }

    @Of(promise = 27, says = "or (the first of them 5) a DAY (10 rows at most)")
    private static void promise27NoneToTenRows() {
        PalmsAltered x = one(0, 0, 60);
        x.hand(1, 3, 5);
        due("no rows", x.ends(1), 195);
        due("no rows", x.ends(0), 198);
        int[] soft = {15, 9, 3, 0};
        for (int n = 1; n <= 10; n++) {
            x.fair(5, n);
            int left = n < 4 ? soft[n] : 0;
            due(n + " days", x.ends(1), 180 - 3 * n + left);
            due(n + " days", x.ends(0), 180 - 3 * n + left + 3);
        }
        due("no hands", new PalmsAltered().ends(0), 0);
    }

    @Of(promise = 27, says = "ENDS: what 0 FORTUNE of all, 1 LENGTH of all.")
    private static void promise27ShakesAndDays() {
        PalmsAltered x = with(0, 1, 0, 6);
        lengths(x, 1, 0, 2, 50);
        x.fair(1, 2);
        // by 4: 7, 7 and, of the hand 2, 5
        due("a shake", x.ends(1), 90 + 7 + 9 + 50 + 95 + 90);
        due("a shake", x.ends(0), 90 + 7 + 9 + 50 + 95 + 90 + 5);
        x.fair(1, 3);
        due("a shake through gloves", x.ends(1), 90 + 66 + 95 + 90);
        x.fair(5, 9);
        // hand 0: 29 each; hand 1: 5, 7, 48; hand 2: 29, 29, 34; hand 3 does not fade on day 0
        due("a day", x.ends(1), 87 + 60 + 92 + 90);
        x.fair(0, 1);
        // 24 by 4, 22 by 4, and 19 by 4 for hand 0
        due("another shake", x.ends(1), 87 + 60 + 92 + 90 + 6 + 5 + 4);
        due("another shake", x.ends(0), 87 + 60 + 92 + 90 + 6 + 5 + 4 + 5);
        x.fair(-1, 0);
        x.fair(0, 1);
        due("that shake alone", x.ends(1), 90 + 52 + 90 + 90 + 7 + 7 + 5);
    }

    @Of(promise = 27, says = "goes on from how all is (DAYS beyond 9999, too), and changes nothing.")
    private static void promise27DaysBeyond9999() {
        PalmsAltered x = with(3, 0);
        goTo(x, 9999);
        lengths(x, 0, 60, 60, 60);
        lengths(x, 1, 60, 60, 60);
        build(x, "bless 9 d=0&h=1;blight 1 d=1&h=1");
        int[] gloved = {180, 177, 177, 174, 174};
        int[] grace = {0, 27, -3, 0, 0};
        for (int n = 0; n < 5; n++) {
            due("behind " + n, x.ends(1), gloved[n] + 180 - 3 * n);
            due("behind " + n, x.ends(0), gloved[n] + 180 - 3 * n + grace[n]);
            x.fair(5, 0);
        }
        due("day", x.told(0), 9999);
        due("as it was", x.told(5), 360);
    }

    public static void main(String[] args) throws Exception {
        Sentences.run(AskedBoundaryTest.class);
    }
}
