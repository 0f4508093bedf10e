/** Each boundary that the document names for judging, the image, acts and tapes (promises 28 to 38), a test for each sentence. */
public final class HostBoundaryTest extends Sentences {
    private static final int BYTES = 0, SHORTS = 1, INTS = 2, LONGS = 3, BOOLEANS = 4;
    private static final int[] NO_TAPE = {-1, 6, 7, MIN, MAX};

    /** A tape becomes a row of bytes with these items. */
    private static void bytes(PalmsAltered x, int tape, int... items) {
        x.tape(tape, BYTES, items.length);
        for (int i = 0; i < items.length; i++) x.item(tape, i, items[i]);
    }

    private static void items(PalmsAltered x, int tape, long... items) {
        StringBuilder got = new StringBuilder();
        StringBuilder want = new StringBuilder();
        for (int i = 0; i < items.length; i++) {
            got.append(x.read(tape, i)).append(' ');
            want.append(items[i]).append(' ');
        }
        alike("tape " + tape, got.toString(), want.toString());
    }

    // ---- promise 28: judge

    @Of(promise = 28, says = "NONE: tape")
    private static void promise28TapeNone() {
        PalmsAltered x = with(0);
        for (int tape : NO_TAPE) due("tape " + tape, x.judge(tape, 0), NONE);
        for (int tape : NO_TAPE) due("tape " + tape + ", and no hands", new PalmsAltered().judge(tape, 0), NONE);
        for (int tape = 0; tape < 6; tape++) due("tape " + tape, x.judge(tape, 0), 100);
    }

    @Of(promise = 28, says = "CAST: it is no row of bytes.")
    private static void promise28AnotherSort() {
        PalmsAltered x = with(0);
        for (int sort = SHORTS; sort <= BOOLEANS; sort++) {
            x.tape(0, sort, 9);
            due("sort " + sort, x.judge(0, 0), CAST);
            due("sort " + sort + ", a place below 0", x.judge(0, -1), CAST);
            due("sort " + sort + ", a place behind", x.judge(0, 9), CAST);
            x.tape(0, sort, 0);
            due("sort " + sort + ", no items", x.judge(0, 0), CAST);
        }
        x.tape(0, BYTES, 9);
        due("bytes", x.judge(0, 0), 0);
        x.tape(0, -1, 9);
        due("nothing is no other sort", x.judge(0, 0), 100);
    }

    @Of(promise = 28, says = "are JUDGED: the first that is otherwise; -5: none, or there is none to look at")
    private static void promise28TheFirstThatIsOtherwise() {
        PalmsAltered x = new PalmsAltered();
        bytes(x, 0, 1, 2, 3);
        due("no hands", x.judge(0, 0), -5);
        due("no hands, and no items", x.judge(0, 3), -5);
        x.hand(0, 0, 7);
        bytes(x, 0, 7, 7, 7);
        due("none", x.judge(0, 0), -5);
        bytes(x, 0, 9, 7, 7, 7, 9);
        due("none, from place 1 on", x.judge(0, 1), -5);
        due("the first", x.judge(0, 0), 0);
        due("the last", x.judge(0, 2), 2);
        PalmsAltered y = new PalmsAltered();
        int[] all = new int[15];
        for (int hand = 0; hand < 5; hand++) {
            y.hand(hand, 0, 10 * hand);
            for (int line = 0; line < 3; line++) {
                all[3 * hand + line] = 10 * hand + line;
                y.set(hand, line, 10 * hand + line);
            }
        }
        bytes(y, 5, all);
        due("none of fifteen", y.judge(5, 0), -5);
        for (int n = 14; n >= 0; n--) {
            y.item(5, n, -1);
            due("number " + n, y.judge(5, 0), n);
        }
    }

    @Of(promise = 28, says = "100 and how many were looked at, if the row ends ahead of that")
    private static void promise28TheRowEnds() {
        PalmsAltered x = with(0, 0, 0, 0, 0);
        int[] row = new int[14];
        java.util.Arrays.fill(row, 30);
        bytes(x, 0, row);
        due("one too few", x.judge(0, 0), 114);
        for (int i = 0; i <= 14; i++) due("from place " + i, x.judge(0, i), 114 - i);
        due("behind its end", x.judge(0, 15), 100);
        due("far behind its end", x.judge(0, 60), 100);
        due("far off", x.judge(0, MAX), 100);
        due("far off", x.judge(0, MAX - 3), 100);
        x.item(0, 13, 29);
        due("otherwise ahead of its end", x.judge(0, 0), 13);
        due("otherwise ahead of its end", x.judge(0, 13), 0);
        bytes(x, 1);
        due("no items", x.judge(1, 0), 100);
        bytes(x, 2, 60, 30, 30, 29);
        due("otherwise, then an end", x.judge(2, 1), 2);
    }

    @Of(promise = 28, says = "(or the place is below 0, or the TAPE holds nothing)")
    private static void promise28NoPlaceAndNothing() {
        PalmsAltered x = with(0);
        bytes(x, 0, 30, 30, 30);
        for (int i : new int[] {-1, -2, -60, MIN}) due("place " + i, x.judge(0, i), 100);
        for (int i : new int[] {0, -1, 1, 60, MIN, MAX}) due("nothing, place " + i, x.judge(1, i), 100);
        x.tape(0, -1, 0);
        due("nothing any more", x.judge(0, 0), 100);
    }

    @Of(promise = 28, says = "from a place on (LINES 0 .. 2 of HAND 0, then of HAND 1, and so on)")
    private static void promise28LinesInTheirOrder() {
        PalmsAltered x = new PalmsAltered();
        x.hand(0, 0, 0);
        x.hand(0, 0, 0);
        lengths(x, 0, 0, 60, 2);
        lengths(x, 1, 3, 4, 5);
        bytes(x, 0, 9, 0, 60, 2, 3, 4, 5, 9);
        due("from place 1 on", x.judge(0, 1), -5);
        due("the line behind the second", x.judge(0, 0), 0);
        x.item(0, 6, 6);
        due("the last", x.judge(0, 1), 5);
        x.item(0, 4, 0);
        due("the second hand's first", x.judge(0, 1), 3);
        x.item(0, 3, -2);
        due("the first hand's last", x.judge(0, 1), 2);
    }

    // ---- promise 29: image

    @Of(promise = 29, says = "THE IMAGE is taken: how many HANDS there are.")
    private static void promise29NoneToFive() {
        PalmsAltered x = new PalmsAltered();
        due("no hands", x.image(), 0);
        due("undo to none", x.undo(), 0);
        for (int n = 1; n <= 5; n++) {
            x.hand(0, 0, 0);
            due("hands", x.image(), n);
        }
        due("again", x.image(), 5);
    }

    // ---- promise 30: undo

    @Of(promise = 30, says = "STATE: there is none.")
    private static void promise30NoImage() {
        PalmsAltered x = new PalmsAltered();
        due("a new one", x.undo(), STATE);
        x.hand(0, 0, 7);
        due("a hand", x.undo(), STATE);
        due("it stays", x.of(0, 10), 7);
        x.image();
        due("an image", x.undo(), 1);
        due("it is there still", x.undo(), 1);
    }

    @Of(promise = 30, says = "THE IMAGE: HANDS with all that is theirs, INK, DAY, SEEN, the FAIR, the BOOK, which BOOTH holds.")
    private static void promise30BackToNothing() {
        PalmsAltered x = new PalmsAltered();
        x.image();
        for (int n = 0; n < 5; n++) x.hand(6, 9, 60);
        for (int part = 0; part < 4; part++) x.row(0, part, 9);
        for (int n = 0; n < 10; n++) x.fair(0, 1);
        for (int n = 0; n < 8; n++) x.book(4, 2, 60);
        for (int n = 0; n < 5; n++) x.see(4, 2, 60, 20);
        x.shake(0, 1);
        x.ink(999);
        goTo(x, 9999);
        build(x, "room 7;press 7;bless 7 h=0");
        due("undo", x.undo(), 0);
        for (int what : new int[] {0, 2, 3, 4}) due("count(" + what + ")", x.count(what), 0);
        int[] told = {0, 20, 4, 100, 0, 0};
        for (int what = 0; what < 6; what++) due("told(" + what + ")", x.told(what), told[what]);
        due("no hand", x.of(0, 0), -1001);
        due("no seen hand", x.was(0, 0, 0), NONE);
        due("a hand once more", x.hand(6, 5, 30), 0);
        due("shook", x.of(0, 2), 0);
        due("grace", x.of(0, 20), 0);
        for (int part = 0; part < 4; part++) due("row", x.row(0, part, 1), 0);
        due("one of seen", x.see(0, 0, 0, 0), 1);
        due("one of the fair", x.fair(5, 0), 1);
        due("one of the book", x.book(0, 0, 0), 1);
        due("nothing stays otherwise", x.undo(), 0);
    }

    @Of(promise = 30, says = "All is as THE IMAGE: how many HANDS.")
    private static void promise30BackToAll() {
        PalmsAltered x = with(6, 0, 0, 0, 0);
        for (int n = 1; n <= 10; n++) x.fair(5, 0);
        for (int n = 1; n <= 8; n++) x.book(1, 0, n);
        for (int n = 1; n <= 5; n++) x.see(1, 0, 30 - n, n);
        x.row(0, 3, 9);
        x.shake(3, 4);
        x.ink(0);
        goTo(x, 3);
        lengths(x, 1, 60, 0, 8);
        build(x, "room 61;press 0");
        x.image();
        int ends = x.ends(1);
        x.fair(-1, 0);
        for (int n = 1; n <= 10; n++) x.fair(1, 2);
        x.book(-1, 0, 0);
        for (int n = 1; n <= 8; n++) x.book(2, 1, 60 - n);
        x.see(-1, 0, 0, 0);
        for (int n = 1; n <= 5; n++) x.see(2, 1, 60 - n, n + 1);
        x.row(0, 3, 0);
        x.shake(3, 1);
        x.ink(999);
        x.pass(60);
        build(x, "room 1;press 9");
        due("undo", x.undo(), 5);
        due("what goes", x.ends(1), ends);
        due("a sixth hand", x.hand(0, 0, 0), FULL);
        due("an eleventh of the fair", x.fair(0, 1), FULL);
        due("a ninth of the book", x.book(0, 0, 0), FULL);
        due("a sixth seen", x.see(0, 0, 0, 0), FULL);
        due("shook", x.of(3, 2), 1);
        due("had not", x.of(1, 2), 0);
        int[] told = {3, 60, 1, 0};
        for (int what = 0; what < 4; what++) due("told(" + what + ")", x.told(what), told[what]);
        due("row", x.row(0, 3, 1), 9);
        int[] lengths = {60, 0, 8};
        for (int line = 0; line < 3; line++) due("length", x.of(1, 10 + line), lengths[line]);
        due("the book's rows", x.looked(), 0);
        x.set(1, 0, 1);
        due("the book's rows", x.looked(), 1);
        due("what is seen", x.was(1, 0, 0), 1);
        due("what is seen", x.was(1, 0, 1), 30);
    }

    @Of(promise = 30, says = "THE IMAGE: HANDS with all that is theirs, INK, DAY, SEEN, the FAIR, the BOOK")
    private static void promise30EachRowOfTheBookSeenAndTheFair() {
        PalmsAltered x = with(0, 0, 3);
        for (int n = 0; n < 7; n++) x.book(n % 2, n % 3, 30);
        x.book(1, 1, 29);
        for (int n = 0; n < 4; n++) x.see(0, 0, 30 - n, n);
        x.see(0, 0, 10, 20);
        for (int n = 0; n < 9; n++) x.fair(0, 2);
        x.fair(5, 0);
        x.image();
        x.book(-1, 0, 0);
        x.see(-1, 0, 0, 0);
        x.fair(-1, 0);
        for (int n = 0; n < 8; n++) x.book(2, 2, 7);
        for (int n = 0; n < 5; n++) x.see(2, 2, 7, 7);
        for (int n = 0; n < 10; n++) x.fair(5, 7);
        x.undo();
        due("the book's last row", x.looked(), 7);
        x.set(1, 1, 29);
        due("its second", x.looked(), 1);
        due("what is seen", x.was(0, 0, 1), 30);
        due("what is seen", x.was(0, 0, 0), 1);
        due("nine shakes and a day", x.ends(1), 270 - 1 - 6);
    }

    @Of(promise = 30, says = "which BOOTH holds.")
    private static void promise30WhichBoothHoldsAlone() {
        PalmsAltered x = with(0);
        x.image();
        for (int n = 0; n < 6; n++) build(x, "room " + n + ";press 9;bless 9 h=0");
        x.tape(0, BYTES, 1);
        x.item(0, 0, 9);
        x.act(0, 1, 7);
        x.feed('r');
        due("undo", x.undo(), 1);
        due("none holds", x.told(1), 20);
        due("none holds", x.told(2), 4);
        due("none holds", x.of(0, 20), 0);
        due("there are 6 for all that", x.count(1), 6);
        due("so that a seventh is refused", x.booth(), FULL);
        due("the text stays", x.count(5), 1);
        due("the tape stays", x.read(0, 0), 9);
        due("the trace stays", x.count(6), 2);
        PalmsAltered y = with(0);
        build(y, "room 7");
        y.image();
        due("a newer one", build(y, "room 8"), 1);
        due("a faulty one", build(y, "room"), -14);
        y.undo();
        due("the older one holds", y.told(1), 7);
        due("the next one's number", build(y, "room 9"), 2);
        due("it holds", y.told(1), 9);
    }

    // ---- promise 31: act

    @Of(promise = 31, says = "0, and no TRACE then: no such HAND, act.")
    private static void promise31NoSuchHandAndAct() {
        PalmsAltered x = with(6, 0);
        for (int hand : new int[] {-1, 2, 4, 5, MIN, MAX}) {
            due("a trace", x.act(0, 2, 7), 2 * (((7 + 0) ^ 5) - 5 + 2 + 0) + ((1 ^ 5) - 5 + 2));
            due("its bodies", x.count(6), 12);
            due("hand " + hand, x.act(hand, 0, 7), 0);
            due("none", x.count(6), 0);
            due("none", x.trace(0), NONE);
        }
        for (int act : new int[] {-1, 3, 4, MIN, MAX}) {
            x.act(0, 1, 7);
            due("its bodies", x.count(6), 5);
            due("act " + act, x.act(1, act, 7), 0);
            due("none", x.count(6), 0);
            due("none", x.trace(0), NONE);
        }
        due("no hands", new PalmsAltered().act(0, 0, 7), 0);
    }

    @Of(promise = 31, says = "ACTS of a HAND with x (wrapping): 0 lies, 1 reads, 2 tells; i its number.")
    private static void promise31Wrapping() {
        PalmsAltered x = new PalmsAltered();
        for (int hand = 0; hand < 5; hand++) x.hand(hand, 9, 0);
        PalmsAltered y = new PalmsAltered();
        for (int hand = 0; hand < 3; hand++) y.hand(hand == 0 ? 0 : hand + 4, 9, 0);
        due("hand lies", x.act(0, 0, MAX), MAX);
        due("hand reads", x.act(0, 1, MIN), MIN - 9);
        due("hand tells", x.act(0, 2, MAX), (MAX - 9) * 2);
        due("hand tells", x.act(0, 2, 1 << 30), ((1 << 30) - 9) * 2);
        due("soft lies", x.act(1, 0, MAX), MIN);
        due("soft reads", x.act(1, 1, MAX), (MIN - 9) ^ 6);
        due("soft reads", x.act(1, 1, MIN), (MIN + 1 - 9) ^ 6);
        due("rough lies", x.act(2, 0, MAX), MAX * 3 + 2);
        due("rough lies", x.act(2, 0, MIN), MIN * 3 + 2);
        due("gloved lies", x.act(3, 0, MAX - 1), MIN + 1);
        due("gloved tells", x.act(3, 2, MAX), (MAX + 3 - 9) * 2 + (1 + 3 - 9));
        due("milky lies", x.act(4, 0, MIN), -(MIN + 4));
        due("milky lies", x.act(4, 0, MAX - 3), MIN);
        due("milky reads", x.act(4, 1, MAX), (-(MIN + 4) - 9) ^ 6);
        due("farmer tells", y.act(1, 2, MIN), (MAX * 3 + 1 - 9) * 2);
        due("told lies", y.act(2, 0, MAX), (MAX + 2) ^ 9);
        due("told reads", y.act(2, 1, MAX), ((MAX + 2) ^ 9) - 9 + (2 + 2));
    }

    @Of(promise = 31, says = "the body of its KIND, or, if that has none, of the next KIND above that has one")
    private static void promise31TheNextKindAbove() {
        int[][] firsts = {{10, 11, 12}, {10, 20, 12}, {30, 11, 12}, {10, 11, 40}, {50, 51, 12}, {30, 11, 60}, {71, 70, 40}};
        for (int kind = 0; kind < 7; kind++) {
            PalmsAltered x = with(kind);
            for (int act = 0; act < 3; act++) {
                x.act(0, act, 7);
                due("act " + act + " of kind " + kind, x.trace(0), firsts[kind][act]);
            }
        }
    }

    @Of(promise = 31, says = "super.lies(..): so from the KIND above the body's on; all that stands in a body is done from the left on.")
    private static void promise31FromTheKindAboveTheBodys() {
        int[][] traces = {{12, 51, 20, 11, 50, 10}, {60, 12, 11, 30, 10}, {40, 12, 70, 11, 71, 10, 10, 70, 11, 71, 10, 10}};
        for (int kind = 4; kind < 7; kind++) {
            PalmsAltered x = with(kind);
            x.act(0, 2, 7);
            int[] trace = traces[kind - 4];
            due("bodies of kind " + kind, x.count(6), trace.length);
            for (int i = 0; i < trace.length; i++) due("body " + i + " of kind " + kind, x.trace(i), trace[i]);
        }
    }

    // ---- promise 32: trace

    @Of(promise = 32, says = "NONE.")
    private static void promise32NoSuchBody() {
        PalmsAltered x = with(6);
        for (int i : new int[] {-1, 0, 1, 20, MIN, MAX}) due("no act yet, " + i, x.trace(i), NONE);
        x.act(0, 0, 7);
        due("the first", x.trace(0), 71);
        due("the last", x.trace(1), 10);
        for (int i : new int[] {-1, 2, 19, 20, MIN, MAX}) due("body " + i, x.trace(i), NONE);
        x.act(0, 2, 7);
        due("body 11 of 12", x.trace(11), 10);
        due("body 12 of 12", x.trace(12), NONE);
        x.act(0, 0, 7);
        due("what ran earlier", x.trace(2), NONE);
    }

    /** No act of the document's runs more than 12 bodies, so that none is left out. */
    @Of(promise = 32, says = "as they began; the first 20 are kept.")
    private static void promise32TheLongestIsKept() {
        int[] longest = {40, 12, 70, 11, 71, 10, 10, 70, 11, 71, 10, 10};
        PalmsAltered x = with(0, 1, 2, 3, 6);
        x.act(4, 2, 7);
        due("how many", x.count(6), 12);
        for (int i = 0; i < 12; i++) due("body " + i, x.trace(i), longest[i]);
        due("body 12", x.trace(12), NONE);
    }

    // ---- promise 33: taken

    @Of(promise = 33, says = "BAD: k;")
    private static void promise33KBad() {
        PalmsAltered x = with(0);
        for (int k : new int[] {-1, 7, MIN, MAX}) due("k " + k, x.taken(0, k), BAD);
        for (int k : new int[] {-1, 7, MIN, MAX}) due("no hand, either, k " + k, x.taken(1, k), BAD);
    }

    @Of(promise = 33, says = "NOTHING: no such HAND")
    private static void promise33NoSuchHand() {
        PalmsAltered x = with(0, 0);
        for (int hand : new int[] {-1, 2, 4, 5, MIN, MAX}) {
            for (int k = 0; k < 7; k++) due("hand " + hand + " for " + k, x.taken(hand, k), NOTHING);
        }
    }

    @Of(promise = 33, says = "CAST.")
    private static void promise33AnotherKind() {
        int[][] no = {{1, 2, 3, 4, 5, 6}, {2, 3, 4, 5, 6}, {1, 3, 4, 5, 6}, {1, 2, 4, 5, 6}, {2, 3, 5, 6}, {1, 3, 4, 6}, {1, 2, 4, 5}};
        for (int kind = 0; kind < 7; kind++) for (int k : no[kind]) due("kind " + kind + " for " + k, with(kind).taken(0, k), CAST);
    }

    @Of(promise = 33, says = "CAST (-12): another sort or KIND")
    private static void promise33TheAnswerCast() {
        due("a hand for a soft one", with(0).taken(0, 1), -12);
        PalmsAltered x = new PalmsAltered();
        x.tape(0, SHORTS, 1);
        x.tape(1, INTS, 1);
        due("shorts for ints", x.shift(0, 0, 1, 0, 1), -12);
        due("shorts for bytes", x.judge(0, 0), -12);
    }

    @Of(promise = 33, says = "A HAND taken for one of KIND k (0 .. 6), or one under that: its KIND.")
    private static void promise33OneOfThatOrUnderIt() {
        int[][] yes = {{0}, {0, 1}, {0, 2}, {0, 3}, {0, 1, 4}, {0, 2, 5}, {0, 3, 6}};
        for (int kind = 0; kind < 7; kind++) for (int k : yes[kind]) due("kind " + kind + " for " + k, with(kind).taken(0, k), kind);
    }

    // ---- promise 34: count

    @Of(promise = 34, says = "BAD.")
    private static void promise34WhatBad() {
        PalmsAltered x = with(0);
        for (int what : new int[] {-1, 7, 8, MIN, MAX}) due("count(" + what + ")", x.count(what), BAD);
    }

    @Of(promise = 34, says = "How many: 0 HANDS, 1 BOOTHS, 2 SEEN, 3 of the FAIR, 4 of the BOOK, 5 bytes of THE TEXT, 6 bodies that ran in the latest act() (all, kept or not).")
    private static void promise34NoneToAllThereCanBe() {
        PalmsAltered x = new PalmsAltered();
        for (int what = 0; what < 7; what++) due("count(" + what + ") at first", x.count(what), 0);
        for (int n = 0; n < 7; n++) x.hand(6, 0, 0);
        for (int n = 0; n < 7; n++) build(x, n < 6 ? "room 1" : "");
        for (int n = 0; n < 7; n++) x.see(0, 0, 0, 0);
        for (int n = 0; n < 12; n++) x.fair(5, 0);
        for (int n = 0; n < 10; n++) x.book(0, 0, 0);
        for (int n = 0; n < 102; n++) x.feed(1);
        x.act(0, 2, 1);
        int[] most = {5, 6, 5, 10, 8, 100, 12};
        for (int what = 0; what < 7; what++) due("count(" + what + ") at most", x.count(what), most[what]);
    }

    // ---- promise 35: tape

    @Of(promise = 35, says = "NONE: tape")
    private static void promise35TapeNone() {
        PalmsAltered x = new PalmsAltered();
        for (int tape : NO_TAPE) {
            due("tape " + tape, x.tape(tape, 0, 0), NONE);
            due("tape, sort and n", x.tape(tape, 9, 99), NONE);
            due("tape and size", x.tape(tape, 0, -1), NONE);
            due("tape, to hold nothing", x.tape(tape, -1, 0), NONE);
        }
        for (int tape = 0; tape < 6; tape++) due("tape " + tape, x.tape(tape, 0, 1), 1);
    }

    @Of(promise = 35, says = "BAD: sort, n above 60")
    private static void promise35SortAndNBad() {
        PalmsAltered x = new PalmsAltered();
        x.tape(0, INTS, 3);
        x.item(0, 2, 7);
        for (int sort : new int[] {-2, 5, MIN, MAX}) {
            due("sort " + sort, x.tape(0, sort, 3), BAD);
            due("sort and size", x.tape(0, sort, -1), BAD);
        }
        for (int sort = 0; sort < 5; sort++) {
            due("n 61", x.tape(0, sort, 61), BAD);
            due("n MAX", x.tape(0, sort, MAX), BAD);
        }
        items(x, 0, 0, 0, 7, NO);
    }

    @Of(promise = 35, says = "SIZE.")
    private static void promise35Size() {
        PalmsAltered x = new PalmsAltered();
        x.tape(0, INTS, 3);
        x.item(0, 2, 7);
        for (int sort = 0; sort < 5; sort++) {
            due("n -1", x.tape(0, sort, -1), SIZE);
            due("n MIN", x.tape(0, sort, MIN), SIZE);
        }
        items(x, 0, 0, 0, 7, NO);
    }

    @Of(promise = 35, says = "SIZE (-14): a size below 0")
    private static void promise35TheAnswerSize() {
        PalmsAltered x = new PalmsAltered();
        due("a size below 0", x.tape(0, BYTES, -1), -14);
        due("a size of 0", x.tape(0, BYTES, 0), 1);
        due("no tape's size below 0", x.tape(6, BYTES, -1), -1);
        due("no sort's size below 0", x.tape(0, 5, -1), -2);
        due("nothing's size below 0", x.tape(0, -1, -1), 1);
    }

    @Of(promise = 35, says = "A TAPE becomes a row of n (0 .. 60) of a sort, all 0")
    private static void promise35TheLeastAndTheMostN() {
        PalmsAltered x = new PalmsAltered();
        for (int sort = 0; sort < 5; sort++) {
            due("n 60", x.tape(5, sort, 60), 1);
            for (int i = 0; i < 60; i += 59) {
                due("all 0", x.read(5, i), 0);
                due("item", x.item(5, i, 1), 1);
            }
            due("behind", x.item(5, 60, 1), PLACE);
            due("n 0", x.tape(5, sort, 0), 1);
            due("no item", x.item(5, 0, 1), PLACE);
            due("none to read", x.read(5, 0), NO);
            due("n 2", x.tape(5, sort, 2), 1);
            items(x, 5, 0, 0, NO);
            due("n 1", x.tape(5, sort, 1), 1);
            items(x, 5, 0, NO);
        }
    }

    @Of(promise = 35, says = "or holds nothing (sort -1: n does not matter): 1.")
    private static void promise35HoldsNothing() {
        PalmsAltered x = new PalmsAltered();
        for (int n : new int[] {0, 3, -1, 60, 61, MIN, MAX}) {
            x.tape(1, LONGS, 3);
            due("tape(1, -1, " + n + ")", x.tape(1, -1, n), 1);
            due("nothing", x.item(1, 0, 0), NOTHING);
            due("nothing", x.read(1, 0), NO);
            due("again", x.tape(1, -1, n), 1);
        }
    }

    @Of(promise = 35, says = "TAPES 0 .. 5 hold nothing (at first)")
    private static void promise35NothingAtFirst() {
        PalmsAltered x = new PalmsAltered();
        for (int tape = 0; tape < 6; tape++) {
            due("item", x.item(tape, 0, 0), NOTHING);
            due("read", x.read(tape, 0), NO);
            due("shift", x.shift(tape, 0, tape, 0, 0), NOTHING);
        }
    }

    // ---- promise 36: item

    @Of(promise = 36, says = "NONE; NOTHING; PLACE.")
    private static void promise36TapeNone() {
        PalmsAltered x = new PalmsAltered();
        for (int tape : NO_TAPE) {
            due("tape " + tape, x.item(tape, 0, 0), NONE);
            due("no tape, no place", x.item(tape, -1, 0), NONE);
        }
    }

    @Of(promise = 36, says = "NOTHING (-11): nothing is there")
    private static void promise36Nothing() {
        PalmsAltered x = new PalmsAltered();
        for (int i : new int[] {0, -1, 60, MIN, MAX}) due("item " + i, x.item(0, i, 1), NOTHING);
        x.tape(0, 0, 0);
        due("an empty row is there", x.item(0, 0, 1), PLACE);
        x.tape(0, -1, 0);
        due("nothing again", x.item(0, 0, 1), NOTHING);
    }

    @Of(promise = 36, says = "PLACE (-13): no such place")
    private static void promise36NoSuchPlace() {
        PalmsAltered x = new PalmsAltered();
        for (int n = 0; n < 4; n++) {
            x.tape(n, n, n);
            for (int i : new int[] {-1, n, n + 1, 60, MIN, MAX}) due("item " + i + " of " + n, x.item(n, i, 1), PLACE);
            for (int i = 0; i < n; i++) due("item " + i + " of " + n, x.item(n, i, 1), 1);
        }
    }

    @Of(promise = 36, says = "becomes v (its lowest bits, as many as an item has; booleans: whether v is not 0): 1.")
    private static void promise36TheLowestBits() {
        long[][] kept = {
            // v, as a byte, a short, an int
            {127, 127, 127, 127}, {128, -128, 128, 128}, {255, -1, 255, 255}, {256, 0, 256, 256}, {-128, -128, -128, -128},
            {-129, 127, -129, -129}, {-256, 0, -256, -256}, {32767, -1, 32767, 32767}, {32768, 0, -32768, 32768},
            {65535, -1, -1, 65535}, {65536, 0, 0, 65536}, {-32768, 0, -32768, -32768}, {-32769, -1, 32767, -32769},
            {2147483647L, -1, -1, 2147483647L}, {2147483648L, 0, 0, -2147483648L}, {4294967295L, -1, -1, -1},
            {4294967296L, 0, 0, 0}, {-2147483649L, -1, -1, 2147483647L}, {Long.MAX_VALUE, -1, -1, -1}, {Long.MIN_VALUE, 0, 0, 0},
            {0x123456789ABCDEF0L, -16, -8464, -1698898192}, {0, 0, 0, 0}, {1, 1, 1, 1}, {-1, -1, -1, -1}};
        PalmsAltered x = new PalmsAltered();
        for (int sort = 0; sort < 5; sort++) x.tape(sort, sort, 1);
        for (long[] row : kept) {
            for (int sort = 0; sort < 5; sort++) due("item", x.item(sort, 0, row[0]), 1);
            for (int sort = 0; sort < 3; sort++) due(row[0] + " of sort " + sort, x.read(sort, 0), row[sort + 1]);
            due(row[0] + " as a long", x.read(LONGS, 0), row[0]);
            due(row[0] + " as a boolean", x.read(BOOLEANS, 0), row[0] == 0 ? 0 : 1);
        }
    }

    // ---- promise 37: read

    @Of(promise = 37, says = "NO: no such TAPE, nothing there, no such place.")
    private static void promise37No() {
        PalmsAltered x = new PalmsAltered();
        x.tape(5, BYTES, 2);
        x.tape(4, BYTES, 0);
        for (int tape : NO_TAPE) due("tape " + tape, x.read(tape, 0), NO);
        for (int i : new int[] {-1, 0, 1, 60, MIN, MAX}) due("nothing, place " + i, x.read(0, i), NO);
        for (int i : new int[] {-1, 2, 3, 60, MIN, MAX}) due("place " + i + " of 2", x.read(5, i), NO);
        for (int i : new int[] {-1, 0, 1, MIN, MAX}) due("place " + i + " of none", x.read(4, i), NO);
        items(x, 5, 0, 0);
    }

    @Of(promise = 37, says = "The constants: `NO = Long.MIN_VALUE`: There is no such number.")
    private static void promise37TheAnswerNo() {
        PalmsAltered x = new PalmsAltered();
        due("read", x.read(0, 0), PalmsAltered.NO);
        due("odds", x.odds(0, 0), PalmsAltered.NO);
        due("mean", x.mean(0, 0), PalmsAltered.NO);
        due("read", x.read(0, 0), Long.MIN_VALUE);
    }

    @Of(promise = 37, says = "or a row of 0 bytes, 1 shorts, 2 ints, 3 longs, 4 booleans (items 0, 1)")
    private static void promise37TheLeastAndTheMostItems() {
        long[][] ends = {{-128, 127}, {-32768, 32767}, {MIN, MAX}, {Long.MIN_VALUE + 1, Long.MAX_VALUE}, {0, 1}};
        for (int sort = 0; sort < 5; sort++) {
            PalmsAltered x = new PalmsAltered();
            x.tape(0, sort, 2);
            x.item(0, 0, ends[sort][0]);
            x.item(0, 1, ends[sort][1]);
            items(x, 0, ends[sort]);
        }
    }

    // ---- promise 38: shift

    @Of(promise = 38, says = "NONE: tapes")
    private static void promise38TapesNone() {
        PalmsAltered x = new PalmsAltered();
        x.tape(0, BYTES, 2);
        for (int tape : NO_TAPE) {
            due("one " + tape, x.shift(tape, 0, 0, 0, 1), NONE);
            due("other " + tape, x.shift(0, 0, tape, 0, 1), NONE);
            due("both " + tape, x.shift(tape, 0, tape, 0, 1), NONE);
            due("one, and nothing there", x.shift(tape, 0, 3, 0, 1), NONE);
            due("other, nothing and no place", x.shift(3, -1, tape, -1, -1), NONE);
        }
    }

    @Of(promise = 38, says = "NOTHING;")
    private static void promise38Nothing() {
        PalmsAltered x = new PalmsAltered();
        x.tape(0, BYTES, 2);
        x.tape(5, SHORTS, 0);
        due("from nothing", x.shift(1, 0, 0, 0, 1), NOTHING);
        due("to nothing", x.shift(0, 0, 1, 0, 1), NOTHING);
        due("both", x.shift(1, 0, 2, 0, 0), NOTHING);
        due("the same", x.shift(1, 0, 1, 0, 0), NOTHING);
        due("none of it", x.shift(0, 0, 1, 0, 0), NOTHING);
        due("no place, either", x.shift(0, -1, 1, -1, -1), NOTHING);
        due("an empty row is something", x.shift(5, 0, 5, 0, 0), 0);
    }

    @Of(promise = 38, says = "CAST: of unlike sorts")
    private static void promise38UnlikeSorts() {
        PalmsAltered x = new PalmsAltered();
        for (int sort = 0; sort < 5; sort++) x.tape(sort, sort, 2);
        for (int one = 0; one < 5; one++) {
            for (int other = 0; other < 5; other++) {
                due("sort " + one + " to " + other, x.shift(one, 0, other, 0, 1), one == other ? 1 : CAST);
                due("none of it", x.shift(one, 0, other, 0, 0), one == other ? 0 : CAST);
                due("no place, either", x.shift(one, -1, other, 0, 1), one == other ? PLACE : CAST);
            }
        }
    }

    @Of(promise = 38, says = "PLACE: n, i or j is below 0, or beyond either's end.")
    private static void promise38NoSuchPlace() {
        PalmsAltered x = new PalmsAltered();
        bytes(x, 0, 1, 2, 3, 4);
        bytes(x, 1, 5, 6);
        int[][] no = {{-1, 0, 1}, {0, -1, 1}, {0, 0, -1}, {-1, 0, 0}, {0, -1, 0}, {4, 0, 1}, {5, 0, 0}, {0, 2, 1}, {0, 3, 0},
            {0, 0, 3}, {0, 1, 2}, {3, 0, 2}, {2, 0, 3}, {MAX, 0, 1}, {0, MAX, 1}, {0, 0, MAX}, {1, 1, MAX}, {MAX, MAX, MAX},
            {MIN, 0, 1}, {0, MIN, 1}, {0, 0, MIN}, {MAX, 0, 0}, {MIN, MIN, MIN}};
        for (int[] row : no) due("shift " + row[0] + ", " + row[1] + ", " + row[2], x.shift(0, row[0], 1, row[1], row[2]), PLACE);
        items(x, 0, 1, 2, 3, 4);
        items(x, 1, 5, 6);
        due("none, at both ends", x.shift(0, 4, 1, 2, 0), 0);
        due("up to both ends", x.shift(0, 2, 1, 0, 2), 2);
        items(x, 1, 3, 4);
        due("the longer behind the shorter", x.shift(1, 0, 0, 2, 2), 2);
        due("one too many for the one", x.shift(1, 0, 0, 0, 3), PLACE);
        due("one too many for the other", x.shift(0, 0, 1, 0, 3), PLACE);
        due("on the same, beyond its end", x.shift(0, 0, 0, 1, 4), PLACE);
        due("on the same, all", x.shift(0, 0, 0, 0, 4), 4);
        items(x, 0, 1, 2, 3, 4);
    }

    @Of(promise = 38, says = "come to another one (or the same) from j on, as they all were before: n.")
    private static void promise38AsTheyAllWereBefore() {
        for (int sort = 0; sort < 4; sort++) {
            PalmsAltered x = new PalmsAltered();
            x.tape(0, sort, 5);
            for (int i = 0; i < 5; i++) x.item(0, i, i + 1);
            due("upwards", x.shift(0, 0, 0, 1, 4), 4);
            items(x, 0, 1, 1, 2, 3, 4);
            due("downwards", x.shift(0, 1, 0, 0, 4), 4);
            items(x, 0, 1, 2, 3, 4, 4);
            due("by more", x.shift(0, 0, 0, 2, 3), 3);
            items(x, 0, 1, 2, 1, 2, 3);
            due("on itself", x.shift(0, 1, 0, 1, 3), 3);
            items(x, 0, 1, 2, 1, 2, 3);
            x.tape(1, sort, 60);
            x.item(1, 59, 7);
            due("from the last place", x.shift(1, 59, 0, 0, 1), 1);
            due("to the last place", x.shift(0, 1, 1, 59, 1), 1);
            items(x, 0, 7, 2, 1, 2, 3, NO);
            due("its last item", x.read(1, 59), 2);
        }
    }

    public static void main(String[] args) throws Exception {
        Sentences.run(HostBoundaryTest.class);
    }
}
