/** Each boundary that the document names for hands, booths and days (promises 1 to 14), a test for each sentence. */
public final class HandsBoundaryTest extends Sentences {
    // ---- promise 1: a new object

    @Of(promise = 1, says = "No HANDS, no BOOTH.")
    private static void promise01NoHandsNoBooth() {
        PalmsAltered x = new PalmsAltered();
        due("count(0)", x.count(0), 0);
        due("count(1)", x.count(1), 0);
        for (int hand = 0; hand < 5; hand++) due("of(" + hand + ", 0)", x.of(hand, 0), -1001);
        due("told(4), with no hands", x.told(4), 0);
        due("told(5), with no hands", x.told(5), 0);
        due("told(1), with no booth", x.told(1), 20);
        due("told(2), with no booth", x.told(2), 4);
        for (int what = 2; what < 7; what++) due("count(" + what + ")", x.count(what), 0);
    }

    @Of(promise = 1, says = "public static final int NONE = -1, BAD = -2, STATE = -3, FULL = -4; public static final long NO = Long.MIN_VALUE;")
    private static void promise01TheConstants() {
        due("NONE", PalmsAltered.NONE, -1);
        due("BAD", PalmsAltered.BAD, -2);
        due("STATE", PalmsAltered.STATE, -3);
        due("FULL", PalmsAltered.FULL, -4);
        due("NO", PalmsAltered.NO, Long.MIN_VALUE);
    }

    @Of(promise = 1, says = "Answers: NONE (-1) no such number; BAD (-2) a number is not as told; STATE (-3) as told; FULL (-4)")
    private static void promise01TheAnswers() {
        PalmsAltered x = with(0, 1, 2, 3, 4);
        due("no such number", x.set(5, 0, 0), -1);
        due("a number is not as told", x.set(0, 0, 61), -2);
        due("a state", x.undo(), -3);
        due("full", x.hand(0, 0, 0), -4);
    }

    @Of(promise = 1, says = "An object is used for at most 512 calls after it has been made")
    private static void promise01TheLastOfItsCalls() {
        PalmsAltered x = new PalmsAltered();
        due("call 1", x.hand(0, 0, 0), 0);
        for (int call = 2; call < 512; call++) due("call " + call, x.set(0, 0, call % 61), call == 2 ? 0 : (call - 1) % 61);
        due("call 512", x.of(0, 10), 511 % 61);
    }

    @Of(promise = 1, says = "DAY: 0 at first.")
    private static void promise01TheFirstDay() {
        due("told(0)", new PalmsAltered().told(0), 0);
        due("pass(1)", new PalmsAltered().pass(1), 1);
    }

    @Of(promise = 1, says = "INK (0 .. 999; 100 at first).")
    private static void promise01TheFirstInk() {
        due("told(3)", new PalmsAltered().told(3), 100);
        due("ink(0)", new PalmsAltered().ink(0), 100);
        PalmsAltered x = one(0, 0, 0);
        build(x, "room 60");
        due("60 of it", x.draw(0, 0, 60), 60);
        due("the other 40", x.draw(0, 1, 60), 40);
    }

    @Of(promise = 1, says = "without one there are no CLAUSES")
    private static void promise01NoClausesWithoutABooth() {
        PalmsAltered x = with(0);
        for (int line = 0; line < 3; line++) due("grace", x.of(0, 20 + line), 0);
        due("worth", x.of(0, 30), 30);
        build(x, "bless 9 ");
        due("grace behind a text with a fault", x.of(0, 20), 0);
    }

    // ---- promise 2: hand

    @Of(promise = 2, says = "HANDS 0 .. 4, as they come")
    private static void promise02TheFirstAndTheLastHand() {
        PalmsAltered x = new PalmsAltered();
        for (int n = 0; n < 5; n++) due("hand", x.hand(n + 1, n, 10 * n), n);
        for (int n = 0; n < 5; n++) {
            due("its kind", x.of(n, 0), n + 1);
            due("its v", x.of(n, 1), n);
            for (int line = 0; line < 3; line++) due("its length", x.of(n, 10 + line), 10 * n);
        }
    }

    @Of(promise = 2, says = "NONE: kind")
    private static void promise02KindNone() {
        for (int kind : new int[] {-1, 7, 8, MIN, MAX}) due("hand(" + kind + ", 0, 0)", new PalmsAltered().hand(kind, 0, 0), NONE);
        for (int kind = 0; kind < 7; kind++) {
            PalmsAltered x = new PalmsAltered();
            due("hand(" + kind + ", 0, 0)", x.hand(kind, 0, 0), 0);
            due("its kind", x.of(0, 0), kind);
        }
    }

    @Of(promise = 2, says = "BAD: v, length")
    private static void promise02VAndLengthBad() {
        for (int v : new int[] {-1, 10, MIN, MAX}) due("v " + v, new PalmsAltered().hand(0, v, 0), BAD);
        for (int length : new int[] {-1, 61, MIN, MAX}) due("length " + length, new PalmsAltered().hand(0, 0, length), BAD);
    }

    @Of(promise = 2, says = "with a number v (0 .. 9)")
    private static void promise02TheLeastAndTheMostV() {
        PalmsAltered x = new PalmsAltered();
        due("v 0", x.hand(0, 0, 7), 0);
        due("v 9", x.hand(0, 9, 7), 1);
        due("the least", x.of(0, 1), 0);
        due("the most", x.of(1, 1), 9);
    }

    @Of(promise = 2, says = "LENGTH of LINES 0 .. 2 (0 .. 60 each)")
    private static void promise02TheLeastAndTheMostLength() {
        PalmsAltered x = new PalmsAltered();
        due("length 0", x.hand(0, 7, 0), 0);
        due("length 60", x.hand(0, 7, 60), 1);
        for (int line = 0; line < 3; line++) {
            due("the least", x.of(0, 10 + line), 0);
            due("the most", x.of(1, 10 + line), 60);
        }
    }

    @Of(promise = 2, says = "FULL: 5.")
    private static void promise02FullWithFive() {
        PalmsAltered x = with(0, 1, 2, 3);
        due("the fifth", x.hand(6, 9, 60), 4);
        for (int kind = 0; kind < 7; kind++) due("a sixth", x.hand(kind, 0, 0), FULL);
        due("how many", x.count(0), 5);
        due("the fifth's kind", x.of(4, 0), 6);
        due("the sixth's kind", x.of(5, 0), -1001);
    }

    @Of(promise = 2, says = "the first that a call's words name")
    private static void promise02WhichRefusalComesFirst() {
        due("all are wrong", new PalmsAltered().hand(7, 10, 61), NONE);
        PalmsAltered x = with(0, 0, 0, 0, 0);
        due("no such kind, and full", x.hand(-1, 0, 0), NONE);
        due("a bad v, and full", x.hand(0, 10, 0), BAD);
        due("a bad length, and full", x.hand(0, 0, 61), BAD);
    }

    // ---- promise 3: of

    @Of(promise = 3, says = "-1001: NONE.")
    private static void promise03NoSuchHandOrPart() {
        PalmsAltered x = with(0, 1);
        for (int hand : new int[] {-1, 2, 4, 5, MIN, MAX}) {
            for (int what : new int[] {0, 1, 2, 3, 4, 10, 22, 31, 99}) due("of(" + hand + ", " + what + ")", x.of(hand, what), -1001);
        }
        for (int what = -45; what < 60; what++) {
            boolean stands = what >= 0 && what <= 4 || what >= 10 && what < 40 && what % 10 < 3;
            if (!stands) due("of(0, " + what + ")", x.of(0, what), -1001);
            if (stands && x.of(1, what) == -1001) due("of(1, " + what + ")", -1001, 0);
        }
        due("of(0, MIN)", x.of(0, MIN), -1001);
        due("of(0, MAX)", x.of(0, MAX), -1001);
    }

    @Of(promise = 3, says = "less those of all blight, together (may be below 0)")
    private static void promise03GraceBelow0() {
        PalmsAltered x = with(0);
        build(x, "bless 1 h=0;blight 2 h=0");
        due("grace", x.of(0, 20), -1);
        build(x, "blight 99 h<9;blight 99 h<9;blight 99 h<9;blight 99 h<9;blight 99 h<9;blight 99 h<9;blight 99 h<9");
        due("the least grace of 100 bytes", x.of(0, 22), -693);
        due("worth", x.of(0, 32), 0);
    }

    @Of(promise = 3, says = "LENGTH and GRACE, together (0 at least)")
    private static void promise03WorthAtLeast0() {
        PalmsAltered x = with(0);
        build(x, "blight 5 h=0");
        lengths(x, 0, 4, 5, 6);
        due("a worth that would be -1", x.of(0, 30), 0);
        due("a worth of just 0", x.of(0, 31), 0);
        due("a worth of 1", x.of(0, 32), 1);
        due("fortune", x.of(0, 3), 1);
    }

    @Of(promise = 3, says = "0, if LENGTH is 0.")
    private static void promise03WorthOfNoLength() {
        PalmsAltered x = with(0);
        build(x, "bless 99 h=0");
        lengths(x, 0, 0, 1, 0);
        due("worth of 0", x.of(0, 30), 0);
        due("its grace", x.of(0, 20), 99);
        due("worth of 1", x.of(0, 31), 100);
        due("fortune", x.of(0, 3), 100);
    }

    @Of(promise = 3, says = "SOFT: that, and v. MILKY: 0.")
    private static void promise03FortuneOfSoftAndMilky() {
        PalmsAltered x = with(4);
        x.hand(1, 0, 0);
        x.hand(1, 9, 0);
        x.hand(5, 9, 0);
        due("milky, with lines", x.of(0, 3), 0);
        due("soft, with v 0 and no lines", x.of(1, 3), 0);
        due("soft, with v 9 and no lines", x.of(2, 3), 9);
        due("farmer, with v 9 and no lines", x.of(3, 3), 0);
        build(x, "bless 99 h<9");
        due("milky, blessed", x.of(0, 3), 0);
        due("all", x.told(4), 9);
        for (int kind : new int[] {0, 2, 3, 5, 6}) due("kind " + kind, one(kind, 9, 10).of(0, 3), 30);
        due("soft, blighted", build(x, "blight 99 h<9"), 1);
        due("v is still added", x.of(2, 3), 9);
    }

    @Of(promise = 3, says = "ROUGH: v modulo 2.")
    private static void promise03FadesOfRough() {
        for (int v = 0; v < 10; v++) due("v " + v, one(2, v, 9).of(0, 4), v % 2);
    }

    @Of(promise = 3, says = "FARMER: as ROUGH, and 1.")
    private static void promise03FadesOfFarmer() {
        for (int v = 0; v < 10; v++) due("v " + v, one(5, v, 9).of(0, 4), v % 2 + 1);
    }

    @Of(promise = 3, says = "GLOVED: 1, if DAY is odd, else 0.")
    private static void promise03FadesOfGloved() {
        PalmsAltered x = with(3);
        for (int day = 0; day < 12; day++) {
            due("day " + day, x.of(0, 4), day % 2);
            x.pass(1);
        }
        goTo(x, 9999);
        due("day 9999", x.of(0, 4), 1);
    }

    @Of(promise = 3, says = "MILKY: the half (cut) of what it is as SOFT.")
    private static void promise03FadesOfMilky() {
        for (int v = 0; v < 10; v++) {
            PalmsAltered x = one(4, v, 9);
            due("milky, v " + v, x.of(0, 4), 1);
            due("soft, v " + v, one(1, v, 9).of(0, 4), 2);
            x.pass(1);
            due("on an odd day", x.of(0, 4), 1);
        }
    }

    @Of(promise = 3, says = "TOLD: as GLOVED, and its ROW (four numbers 0 .. 9; 0 at first) at DAY modulo 4 more.")
    private static void promise03FadesOfTold() {
        PalmsAltered x = with(6);
        for (int day = 0; day < 5; day++) {
            due("no row, day " + day, x.of(0, 4), day % 2);
            x.pass(1);
        }
        int[] row = {9, 0, 4, 7};
        for (int part = 0; part < 4; part++) x.row(0, part, row[part]);
        for (int day = 5; day < 18; day++) {
            due("day " + day, x.of(0, 4), day % 2 + row[day % 4]);
            x.pass(1);
        }
        goTo(x, 9999);
        due("day 9999", x.of(0, 4), 1 + 7);
    }

    @Of(promise = 3, says = "d DAY modulo 10")
    private static void promise03TheDayInATestWraps() {
        PalmsAltered x = one(2, 0, 9);
        build(x, "bless 1 d<1;bless 20 d>8;bless 40 d>9;bless 80 d=10");
        for (int day = 0; day < 25; day++) {
            due("day " + day, x.of(0, 20), day % 10 == 0 ? 1 : day % 10 == 9 ? 20 : 0);
            x.pass(1);
        }
        goTo(x, 9999);
        due("day 9999", x.of(0, 20), 20);
        due("the day behind it", x.on(1, 20), 9);
        due("its fortune by grace", x.on(1, 10), 30);
    }

    // ---- promise 4: set

    @Of(promise = 4, says = "NONE: hand, line")
    private static void promise04HandAndLineNone() {
        PalmsAltered x = with(0, 1);
        for (int hand : new int[] {-1, 2, 4, 5, MIN, MAX}) due("hand " + hand, x.set(hand, 0, 7), NONE);
        for (int line : new int[] {-1, 3, 4, MIN, MAX}) due("line " + line, x.set(1, line, 7), NONE);
        due("the line behind", x.set(0, 3, 7), NONE);
        due("hand 1 is as it was", x.of(1, 10), 30);
        due("no hands at all", new PalmsAltered().set(0, 0, 0), NONE);
    }

    @Of(promise = 4, says = "BAD.")
    private static void promise04NBad() {
        PalmsAltered x = with(0);
        for (int n : new int[] {-1, 61, MIN, MAX}) due("n " + n, x.set(0, 0, n), BAD);
        due("as it was", x.of(0, 10), 30);
    }

    @Of(promise = 4, says = "LENGTH of LINES 0 .. 2 (0 .. 60 each)")
    private static void promise04TheLeastAndTheMost() {
        PalmsAltered x = with(0);
        due("the most", x.set(0, 0, 60), 30);
        due("the least", x.set(0, 0, 0), 60);
        due("as it is", x.set(0, 0, 0), 0);
        due("the last line", x.set(0, 2, 1), 30);
        due("between", x.of(0, 11), 30);
    }

    @Of(promise = 4, says = "the first that a call's words name")
    private static void promise04WhichRefusalComesFirst() {
        due("hand and n", with(0).set(1, 0, 61), NONE);
        due("line and n", with(0).set(0, 3, -1), NONE);
    }

    // ---- promise 5: row

    @Of(promise = 5, says = "NONE: hand, part")
    private static void promise05HandAndPartNone() {
        PalmsAltered x = with(6, 6);
        for (int hand : new int[] {-1, 2, 4, 5, MIN, MAX}) due("hand " + hand, x.row(hand, 0, 7), NONE);
        for (int part : new int[] {-1, 4, 5, MIN, MAX}) due("part " + part, x.row(0, part, 7), NONE);
        due("the second's first", x.row(1, 0, 0), 0);
    }

    @Of(promise = 5, says = "BAD;")
    private static void promise05NBad() {
        PalmsAltered x = with(6);
        for (int n : new int[] {-1, 10, MIN, MAX}) due("n " + n, x.row(0, 0, n), BAD);
        due("as it was", x.row(0, 0, 0), 0);
    }

    @Of(promise = 5, says = "becomes n (0 .. 9)")
    private static void promise05TheLeastAndTheMost() {
        PalmsAltered x = with(6);
        due("the most", x.row(0, 0, 9), 0);
        due("the least", x.row(0, 0, 0), 9);
        due("again", x.row(0, 0, 0), 0);
    }

    @Of(promise = 5, says = "STATE: another KIND.")
    private static void promise05AnotherKind() {
        for (int kind = 0; kind < 6; kind++) {
            for (int part = 0; part < 4; part++) due("kind " + kind, with(kind).row(0, part, 0), STATE);
        }
        due("the kind", with(6).row(0, 0, 1), 0);
    }

    @Of(promise = 5, says = "the first that a call's words name")
    private static void promise05WhichRefusalComesFirst() {
        due("part, n and kind", with(0).row(0, 4, 10), NONE);
        due("hand and n", with(0).row(1, 0, 10), NONE);
        due("n and kind", with(3).row(0, 0, 10), BAD);
    }

    @Of(promise = 5, says = "for DAYS modulo 4 being part")
    private static void promise05TheDaysWrap() {
        PalmsAltered x = one(6, 0, 60);
        due("part 0", x.row(0, 0, 3), 0);
        due("part 3", x.row(0, 3, 5), 0);
        int length = 60;
        for (int day = 0; day < 10; day++) {
            length -= day % 2 + (day % 4 == 0 ? 3 : day % 4 == 3 ? 5 : 0);
            x.pass(1);
            due("behind day " + day, x.of(0, 10), length);
        }
    }

    @Of(promise = 5, says = "(four numbers 0 .. 9; 0 at first)")
    private static void promise05AllAre0AtFirst() {
        PalmsAltered x = with(0, 6);
        for (int part = 0; part < 4; part++) due("part " + part, x.row(1, part, 9), 0);
        for (int part = 0; part < 4; part++) due("part " + part, x.row(1, part, part), 9);
    }

    // ---- promise 6: ink

    @Of(promise = 6, says = "BAD.")
    private static void promise06NBad() {
        PalmsAltered x = new PalmsAltered();
        for (int n : new int[] {-1, 1000, MIN, MAX}) due("n " + n, x.ink(n), BAD);
        due("as it was", x.told(3), 100);
    }

    @Of(promise = 6, says = "INK becomes n (0 .. 999)")
    private static void promise06TheLeastAndTheMost() {
        PalmsAltered x = new PalmsAltered();
        due("the most", x.ink(999), 100);
        due("told", x.told(3), 999);
        due("the least", x.ink(0), 999);
        due("told", x.told(3), 0);
        due("again", x.ink(0), 0);
    }

    // ---- promise 7: draw

    @Of(promise = 7, says = "NONE: hand, line")
    private static void promise07HandAndLineNone() {
        PalmsAltered x = one(0, 0, 0);
        for (int hand : new int[] {-1, 1, 4, 5, MIN, MAX}) due("hand " + hand, x.draw(hand, 0, 7), NONE);
        for (int line : new int[] {-1, 3, 4, MIN, MAX}) due("line " + line, x.draw(0, line, 7), NONE);
        due("hand and n", x.draw(1, 0, 61), NONE);
        due("line and n", x.draw(0, 3, -1), NONE);
        due("ink", x.told(3), 100);
    }

    @Of(promise = 7, says = "BAD.")
    private static void promise07NBad() {
        PalmsAltered x = one(0, 0, 0);
        for (int n : new int[] {-1, 61, MIN, MAX}) due("n " + n, x.draw(0, 0, n), BAD);
        due("as it was", x.of(0, 10), 0);
        due("ink", x.told(3), 100);
    }

    @Of(promise = 7, says = "A LINE is DRAWN on by n (0 .. 60)")
    private static void promise07TheLeastAndTheMost() {
        PalmsAltered x = one(0, 0, 0);
        build(x, "room 60");
        due("the least", x.draw(0, 0, 0), 0);
        due("as it was", x.of(0, 10), 0);
        due("the most", x.draw(0, 0, 60), 60);
        due("as it is", x.of(0, 10), 60);
        due("ink", x.told(3), 40);
    }

    @Of(promise = 7, says = "its LENGTH is as much more as there is INK, up to n")
    private static void promise07AsThereIsInk() {
        for (int ink = 0; ink < 12; ink++) {
            PalmsAltered x = one(0, 0, 0);
            x.ink(ink);
            int more = Math.min(ink, 7);
            due("with ink " + ink, x.draw(0, 1, 7), more);
            due("as it is", x.of(0, 11), more);
            due("ink behind it", x.told(3), ink - more);
            due("its neighbour", x.of(0, 10), 0);
        }
    }

    @Of(promise = 7, says = "up to ROOM (none, if it is that long or longer)")
    private static void promise07UpToTheRoom() {
        PalmsAltered x = one(0, 0, 0);
        lengths(x, 0, 19, 20, 21);
        due("one below it", x.draw(0, 0, 9), 1);
        due("that long", x.draw(0, 1, 9), 0);
        due("longer", x.draw(0, 2, 9), 0);
        due("not shorter", x.of(0, 12), 21);
        due("ink", x.told(3), 99);
        due("full now", x.draw(0, 0, 60), 0);
        build(x, "room 0");
        x.set(0, 0, 0);
        due("no room at all", x.draw(0, 0, 60), 0);
        build(x, "room 1");
        due("room of 1", x.draw(0, 0, 60), 1);
        build(x, "room 99");
        x.set(0, 0, 59);
        due("not beyond 60", x.draw(0, 0, 60), 1);
        due("just 60", x.draw(0, 0, 60), 0);
    }

    // ---- promise 8: shake

    @Of(promise = 8, says = "NONE;")
    private static void promise08HandsNone() {
        PalmsAltered x = with(0, 0);
        for (int hand : new int[] {-1, 2, 4, 5, MIN, MAX}) {
            due("one " + hand, x.shake(hand, 0), NONE);
            due("other " + hand, x.shake(0, hand), NONE);
            due("both " + hand, x.shake(hand, hand), NONE);
        }
        due("shook", x.of(0, 2), 0);
    }

    @Of(promise = 8, says = "BAD: one is both.")
    private static void promise08OneIsBoth() {
        PalmsAltered x = with(0, 0);
        due("shake(0, 0)", x.shake(0, 0), BAD);
        due("shake(1, 1)", x.shake(1, 1), BAD);
        due("shook", x.of(1, 2), 0);
    }

    @Of(promise = 8, says = "is more by the difference by PRESS (cut)")
    private static void promise08TheDifferenceIsCut() {
        PalmsAltered x = new PalmsAltered();
        x.hand(0, 0, 20);
        x.hand(0, 0, 20);
        lengths(x, 1, 17, 16, 13);
        due("3, 4 and 7 by 4", x.shake(0, 1), 0 + 1 + 1);
        due("3 by 4", x.of(1, 10), 17);
        due("4 by 4", x.of(1, 11), 17);
        due("7 by 4", x.of(1, 12), 14);
        lengths(x, 1, 20, 21, 24);
        due("0, -1 and -4 by 4", x.shake(0, 1), 1);
        due("the first is the shorter one", x.of(0, 12), 21);
        build(x, "press 1");
        lengths(x, 0, 0, 60, 59);
        lengths(x, 1, 60, 0, 60);
        due("by 1", x.shake(1, 0), 60 + 60 + 1);
        for (int line = 0; line < 3; line++) due("the longer one's", x.of(0, 10 + line), 60);
        due("alike", x.shake(0, 1), 0);
        build(x, "press 61");
        lengths(x, 0, 0, 0, 0);
        due("60 by 61", x.shake(0, 1), 0);
        build(x, "press 60");
        due("60 by 60", x.shake(0, 1), 3);
    }

    @Of(promise = 8, says = "but nothing is printed, if either is GLOVED or TOLD")
    private static void promise08NothingIsPrintedThroughGloves() {
        for (int kind = 0; kind < 7; kind++) {
            boolean gloves = kind == 3 || kind == 6;
            for (int turn = 0; turn < 2; turn++) {
                PalmsAltered x = with(0, kind);
                lengths(x, turn, 2, 30, 30);
                due("the first with kind " + kind, x.shake(0, 1), gloves ? 0 : 7);
                due("the shorter line", x.of(turn, 10), gloves ? 2 : 9);
                due("the other way", x.shake(1, 0), gloves ? 0 : 5);
                for (int hand = 0; hand < 2; hand++) due("shook all the same", x.of(hand, 2), 2);
            }
        }
        PalmsAltered y = with(3, 6, 6);
        y.set(0, 0, 2);
        y.set(1, 1, 2);
        due("both", y.shake(0, 1), 0);
        due("both", y.shake(1, 2), 0);
        due("as it was", y.of(0, 10), 2);
        due("shook", y.of(1, 2), 2);
    }

    @Of(promise = 8, says = "SHOOK (how often, 0 .. 9999; 0 at first).")
    private static void promise08NoneShookAtFirst() {
        PalmsAltered x = with(0, 3, 6);
        for (int hand = 0; hand < 3; hand++) due("shook", x.of(hand, 2), 0);
        x.shake(0, 2);
        due("the one", x.of(0, 2), 1);
        due("neither", x.of(1, 2), 0);
        due("the other", x.of(2, 2), 1);
    }

    /** No object's 512 calls reach 9999; behind them its answers are free, but this class keeps to the sentence. */
    @Of(promise = 8, says = "both SHOOK 1 more (9999 at most)")
    private static void promise08ShookAtMost() {
        PalmsAltered x = with(0, 3, 3);
        for (int n = 1; n <= 253; n++) {
            x.shake(0, 1);
            due("shook", x.of(0, 2), n);
        }
        for (int n = 254; n < 9999; n++) x.shake(0, 1);
        x.shake(2, 1);
        due("9998 times", x.of(0, 2), 9998);
        due("9999 times", x.of(1, 2), 9999);
        x.shake(0, 1);
        x.shake(0, 1);
        due("not 10000", x.of(0, 2), 9999);
        due("not 10001", x.of(1, 2), 9999);
    }

    // ---- promise 9: feed

    @Of(promise = 9, says = "A sign (0 .. 127) comes behind THE TEXT's")
    private static void promise09TheLeastAndTheMostSign() {
        PalmsAltered x = new PalmsAltered();
        due("sign 0", x.feed(0), 1);
        due("sign 127", x.feed(127), 2);
        due("they are no booth", x.booth(), -10);
        feed(x, "room 1");
        due("sign 0", x.feed(0), 7);
        due("it is a sign like others", x.booth(), -16);
    }

    @Of(promise = 9, says = "BAD;")
    private static void promise09SignBad() {
        PalmsAltered x = new PalmsAltered();
        for (int sign : new int[] {-1, 128, 256 + 'r', MIN, MAX}) due("sign " + sign, x.feed(sign), BAD);
        due("no signs", x.count(5), 0);
    }

    @Of(promise = 9, says = "FULL.")
    private static void promise09Full() {
        PalmsAltered x = new PalmsAltered();
        for (int n = 1; n <= 100; n++) due("feed", x.feed('!'), n);
        due("a 101st", x.feed('!'), FULL);
        due("a bad one", x.feed(128), BAD);
        due("a bad one", x.feed(-1), BAD);
        due("how many", x.count(5), 100);
        due("the text", x.booth(), -10);
        due("room again", x.feed('!'), 1);
    }

    @Of(promise = 9, says = "THE TEXT (bytes, 100 at most)")
    private static void promise09AHundredBytesAreRead() {
        PalmsAltered x = with(0);
        String start = "bless 7 " + "(h=1)|".repeat(14);
        feed(x, start + "!!(l=02)");
        due("100 bytes", x.count(5), 100);
        due("a 101st", x.feed(';'), FULL);
        due("they are a booth", x.booth(), 0);
        due("whose last byte is read", x.of(0, 22), 7);
        due("another line", x.of(0, 20), 0);
        due("a fault in the last of 100", build(x, start + "!!(l=022"), -10 - 99);
        due("100 that end too early", build(x, start + "!!((l=02"), -10 - 100);
        due("99 bytes", build(x, start + "!(l=02)"), 1);
        due("their grace", x.of(0, 21), 7);
    }

    // ---- promise 10: booth

    @Of(promise = 10, says = "THE TEXT, which is empty then, is a BOOTH, and holds: its number.")
    private static void promise10TheTextIsEmptyThen() {
        PalmsAltered x = new PalmsAltered();
        due("a booth", build(x, "room 1"), 0);
        due("no bytes", x.count(5), 0);
        due("a text with a fault", build(x, "room x"), -15);
        due("no bytes", x.count(5), 0);
        due("an empty text", x.booth(), -10);
        due("the next", build(x, "room 2"), 1);
        due("a shorter one", build(x, "room"), -14);
        for (int n = 2; n < 6; n++) due("the next", build(x, "room " + n), n);
        due("it holds", x.told(1), 5);
    }

    @Of(promise = 10, says = "FULL: there are 6 (THE TEXT stays)")
    private static void promise10FullWithSix() {
        PalmsAltered x = new PalmsAltered();
        for (int n = 0; n < 5; n++) due("booth", build(x, "room " + n), n);
        due("a fault is none of the 6", build(x, "room"), -14);
        due("the sixth", build(x, "room 5"), 5);
        due("an empty text", x.booth(), FULL);
        due("a seventh", build(x, "room 7"), FULL);
        due("the text stays", x.count(5), 6);
        due("again", x.booth(), FULL);
        due("the text stays", x.count(5), 6);
        due("a fault", build(x, "x"), FULL);
        due("it stays, too", x.count(5), 7);
        due("the sixth holds", x.told(1), 5);
        due("how many", x.count(1), 6);
    }

    @Of(promise = 10, says = "-10 less the FAULT (the one that held holds).")
    private static void promise10TheOneThatHeldHolds() {
        PalmsAltered x = with(0);
        due("a fault ahead of all booths", build(x, "room 7;"), -17);
        due("none holds", x.told(1), 20);
        due("none is made", x.count(1), 0);
        due("a booth", build(x, "room 44;press 2;bless 3 h=0"), 0);
        due("faulty behind good clauses", build(x, "room 7;press 9;bless 8 h=0;x"), -10 - 27);
        due("its room", x.told(1), 44);
        due("its press", x.told(2), 2);
        due("its grace", x.of(0, 20), 3);
        due("one booth", x.count(1), 1);
        due("a fault at the first byte", build(x, "?"), -10);
        due("it still holds", x.told(1), 44);
    }

    @Of(promise = 10, says = "(the end of THE TEXT, if it ends too early)")
    private static void promise10ATextThatEndsTooEarly() {
        String[] whole = {"bless 12 !(h=1&l<2|k>3);", "blight 1 v=4;room 5;press 6|", "press 10;", "room 1;bless 3 ((((x<9))));"};
        for (String text : whole) {
            PalmsAltered x = new PalmsAltered();
            for (int size = 0; size < text.length(); size++) {
                String start = text.substring(0, size);
                boolean booth = start.matches("(.*;)?((room|press) \\d+|bless \\d+ !\\([^)]*\\)|blight \\d+ v=4|bless 3 \\(.*\\){4})");
                if (!booth) due("'" + start + "'", build(x, start), -10 - size);
            }
        }
        PalmsAltered y = new PalmsAltered();
        due("100 bytes that end too early", build(y, "bless 1 " + "h=1&".repeat(23)), -110);
        due("an empty one", y.booth(), -10);
    }

    @Of(promise = 10, says = "The FAULT: the place of the first byte with which none begins so")
    private static void promise10TheFirstByteWithWhichNoneBegins() {
        String[] starts = {"", "b", "bl", "ble", "bles", "bless", "bless ", "bless 1", "bless 12", "bless 12 ", "bless 1 h",
            "bless 1 h<", "bless 1 h<1", "bless 1 h<12", "bless 1 (", "bless 1 (h=1", "bless 1 (h=1)", "bless 1 !",
            "bless 1 h=1&", "bless 1 h=1|", "bli", "blig", "bligh", "blight", "r", "ro", "roo", "room", "room ", "room 1",
            "room 12", "p", "pr", "pre", "pres", "press", "press ", "press 1", "press 12", "room 1;"};
        for (String start : starts) {
            PalmsAltered x = new PalmsAltered();
            due("'" + start + "?'", build(x, start + "?room 1"), -10 - start.length());
            due("'" + start + "B'", build(x, start + "B"), -10 - start.length());
            x.feed(0);
            due("a byte 0 alone", x.booth(), -10);
        }
        due("a byte 127", build(new PalmsAltered(), "room 1\u007f"), -16);
    }

    @Of(promise = 10, says = "CLAUSES, 1 to 10, with ; between")
    private static void promise10OneToTenClauses() {
        PalmsAltered x = new PalmsAltered();
        String nine = "room 1;".repeat(9);
        due("none", x.booth(), -10);
        due("one", build(x, "room 0"), 0);
        due("ten", build(x, nine + "room 9"), 1);
        due("the tenth is read", x.told(1), 9);
        due("a ; behind ten", build(x, nine + "room 8;"), -10 - 69);
        due("eleven", build(x, nine + "room 8;room 7"), -10 - 69);
        due("eleven, short", build(x, nine + "room 77;press 9"), -10 - 70);
        due("the ten hold", x.told(1), 9);
        due("a ; ahead", build(x, ";room 1"), -10);
        due("two ; between", build(x, "room 1;;room 2"), -17);
        due("a ; behind", build(x, "room 1;"), -17);
        due("a blank between", build(x, "room 1 room 2"), -16);
        due("nothing between", build(x, "room 1room 2"), -16);
        due("a blank behind ;", build(x, "room 1; room 2"), -17);
    }

    @Of(promise = 10, says = "(one blank ahead of each part behind the word; n 1 or 2 digits)")
    private static void promise10BlanksAndDigits() {
        PalmsAltered x = with(0);
        String[] words = {"bless", "blight", "room", "press"};
        for (String word : words) {
            int size = word.length();
            due(word + ": no blank", build(x, word + "1"), -10 - size);
            due(word + ": two blanks", build(x, word + "  1"), -10 - size - 1);
            due(word + ": no digit", build(x, word + " ;"), -10 - size - 1);
            due(word + ": a sign", build(x, word + " -1"), -10 - size - 1);
            due(word + ": what is just ahead of 0", build(x, word + " /"), -10 - size - 1);
            due(word + ": what is just behind 9", build(x, word + " :"), -10 - size - 1);
            due(word + ": and as the second", build(x, word + " 9:"), -10 - size - 2);
            due(word + ": three digits", build(x, word + " 012 h=0"), -10 - size - 3);
        }
        due("no blank ahead of E", build(x, "bless 1h=0"), -17);
        due("two blanks ahead of E", build(x, "bless 1  h=0"), -18);
        due("no E", build(x, "bless 1"), -17);
        due("a room with an E", build(x, "room 1 h=0"), -16);
        due("a blank ahead of all", build(x, " room 1"), -10);
        due("1 digit", build(x, "room 7;bless 9 h=0"), 0);
        due("its room", x.told(1), 7);
        due("its grace", x.of(0, 20), 9);
        due("2 digits", build(x, "room 58;bless 98 h=0"), 1);
        due("its room", x.told(1), 58);
        due("its grace", x.of(0, 20), 98);
        due("0 and 00", build(x, "room 00;blight 0 h=0"), 2);
        due("its room", x.told(1), 0);
        due("its grace", x.of(0, 20), 0);
        due("2 digits with 0 ahead", build(x, "room 08;blight 01 h=0"), 3);
        due("its room", x.told(1), 8);
        due("its grace", x.of(0, 20), -1);
    }

    @Of(promise = 10, says = "a TEST: a letter, < or = or >, a number (1 or 2 digits)")
    private static void promise10ATestsNumber() {
        PalmsAltered x = with(0, 0);
        x.set(1, 0, 60);
        due("three digits", build(x, "bless 1 x=060"), -10 - 12);
        due("no digit", build(x, "bless 1 x="), -20);
        due("a sign", build(x, "bless 1 x=-1"), -20);
        due("what is just ahead of 0", build(x, "bless 1 x=/"), -20);
        due("what is just behind 9", build(x, "bless 1 x=:"), -20);
        due("and as the second", build(x, "bless 1 x=9:"), -21);
        due("two relations", build(x, "bless 1 x<=9"), -20);
        due("no relation", build(x, "bless 1 x9"), -19);
        due("another letter", build(x, "bless 1 y=9"), -18);
        due("a blank within", build(x, "bless 1 x =9"), -19);
        due("1 digit and 2", build(x, "bless 1 h<1;bless 2 h=01;bless 4 x>59;bless 8 x<60;bless 16 x>60;bless 32 x=60"), 0);
        due("hand 0, length 30", x.of(0, 20), 1 + 8);
        due("hand 1, length 60", x.of(1, 20), 2 + 4 + 32);
        due("hand 1, length 30", x.of(1, 21), 2 + 8);
        due("as much as 99", build(x, "bless 1 x<99;bless 2 x>99;bless 4 x<0;bless 8 x>0"), 1);
        due("length 60", x.of(1, 20), 1 + 8);
        x.set(1, 0, 0);
        due("length 0", x.of(1, 20), 1);
    }

    @Of(promise = 10, says = "of a HAND and a LINE h the number of the one, l of the other, k its KIND, v its v, x LENGTH of the LINE, d DAY modulo 10.")
    private static void promise10TheLetters() {
        // hand 3, line 2, kind 2, v 7, length 60, day 5
        char[] letters = {'h', 'l', 'k', 'v', 'x', 'd'};
        int[] values = {3, 2, 2, 7, 60, 5};
        for (int n = 0; n < letters.length; n++) {
            for (int number = values[n] - 1; number <= values[n] + 1; number++) {
                for (String relation : new String[] {"<", "=", ">"}) {
                    PalmsAltered x = with(0, 1, 4);
                    x.hand(2, 7, 4);
                    x.pass(25);
                    x.set(3, 2, 60);
                    String test = letters[n] + relation + number;
                    build(x, "bless 11 " + test);
                    int compared = Integer.compare(values[n], number);
                    boolean so = compared < 0 && relation.equals("<") || compared == 0 && relation.equals("=")
                        || compared > 0 && relation.equals(">");
                    due("grace by " + test, x.of(3, 22), so ? 11 : 0);
                }
            }
        }
    }

    @Of(promise = 10, says = "E: T or T|E. T: F or F&T. F: !F, (E), or a TEST")
    private static void promise10WhatJoinsTests() {
        String[] tests = {"h=9", "h=0"};
        for (int n = 0; n < 16; n++) {
            boolean a = (n & 1) != 0, b = (n & 2) != 0, c = (n & 4) != 0, d = (n & 8) != 0;
            String[] t = {tests[n & 1], tests[n >> 1 & 1], tests[n >> 2 & 1], tests[n >> 3 & 1]};
            Object[][] whole = {
                {t[0] + "|" + t[1] + "|" + t[2], a | b | c}, {t[0] + "&" + t[1] + "&" + t[2] + "&" + t[3], a & b & c & d},
                {t[0] + "|" + t[1] + "&" + t[2] + "|" + t[3], a | b & c | d}, {t[0] + "&" + t[1] + "|" + t[2] + "&" + t[3], a & b | c & d},
                {"!" + t[0] + "&" + t[1] + "|!" + t[2], !a & b | !c}, {"!(" + t[0] + "|" + t[1] + ")&" + t[2], !(a | b) & c},
                {"(" + t[0] + "|" + t[1] + ")&(" + t[2] + "|!" + t[3] + ")", (a | b) & (c | !d)},
                {"!" + t[0] + "|!(" + t[1] + "&!(" + t[2] + "|" + t[3] + "))", !a | !(b & !(c | d))}};
            PalmsAltered x = with(0);
            StringBuilder all = new StringBuilder();
            for (int m = 0; m < 3; m++) all.append(m == 0 ? "" : ";").append("bless ").append(1 << m).append(' ').append(whole[m][0]);
            due("three", build(x, all.toString()), 0);
            int grace = 0;
            for (int m = 0; m < 3; m++) if ((Boolean) whole[m][1]) grace += 1 << m;
            due("grace by " + all, x.of(0, 20), grace);
            for (int m = 3; m < whole.length; m++) {
                due((String) whole[m][0], build(x, "blight 7 " + whole[m][0]), m - 2);
                due("grace by " + whole[m][0], x.of(0, 20), (Boolean) whole[m][1] ? -7 : 0);
            }
        }
    }

    @Of(promise = 10, says = "A ( or ! within 4 others is none.")
    private static void promise10FourBrackets() {
        String[] four = {"((((", "!!!!", "(!(!", "!(!(", "((!!", "!!(("};
        for (int n = 0; n < four.length; n++) {
            String closing = four[n].replace("!", "").replace('(', ')');
            PalmsAltered x = with(0);
            due(four[n], build(x, "bless 1 " + four[n] + "h=0" + closing), 0);
            due("its grace", x.of(0, 20), 1);
            due(four[n] + "(", build(x, "bless 1 " + four[n] + "(h=0)" + closing), -10 - 12);
            due(four[n] + "!", build(x, "bless 1 " + four[n] + "!h=0" + closing), -10 - 12);
            due(four[n] + " behind a |", build(x, "bless 1 " + four[n] + "h=1" + closing + "|" + four[n] + "h=0" + closing), 1);
            due(four[n] + " behind a &", build(x, "bless 1 " + four[n] + "h=0" + closing + "&" + four[n] + "(h=0)"), -10 - 20 - closing.length());
        }
        PalmsAltered x = with(0);
        due("a fifth behind a test in four", build(x, "bless 1 ((((h=0|(h=0)))))"), -10 - 16);
        due("a fifth behind a test in four", build(x, "bless 1 ((((h=0&!h=0))))"), -10 - 16);
        due("a fourth behind a fourth", build(x, "bless 1 (((!h=1&!h=1&(h=0))))"), 0);
        due("its grace", x.of(0, 20), 1);
        due("a fourth behind an ended one", build(x, "bless 1 !(!(h=0)&!(h=0))|(((!h=1)))"), 1);
        due("a fifth behind an ended one", build(x, "bless 1 !(!(h=0)&!(!h=0))"), -10 - 19);
    }

    @Of(promise = 10, says = "The newest BOOTH holds (6 at most)")
    private static void promise10TheNewestHolds() {
        PalmsAltered x = with(0);
        for (int n = 0; n < 6; n++) {
            due("booth", build(x, "bless " + (n + 1) + " h=0;room 3" + n), n);
            due("its grace alone", x.of(0, 20), n + 1);
            due("its room", x.told(1), 30 + n);
            due("how many", x.count(1), n + 1);
        }
    }

    // ---- promise 11: told

    @Of(promise = 11, says = "NONE.")
    private static void promise11WhatNone() {
        PalmsAltered x = with(0);
        for (int what : new int[] {-1, 6, 7, 10, MIN, MAX}) due("told(" + what + ")", x.told(what), NONE);
    }

    @Of(promise = 11, says = "ROOM (20 without; 60 if more)")
    private static void promise11RoomWithoutAndAtMost() {
        PalmsAltered x = new PalmsAltered();
        due("without a booth", x.told(1), 20);
        build(x, "press 3");
        due("without a clause of it", x.told(1), 20);
        build(x, "room 60;press 3");
        due("60", x.told(1), 60);
        build(x, "room 61");
        due("61", x.told(1), 60);
        build(x, "room 59");
        due("59", x.told(1), 59);
        build(x, "room 0");
        due("0", x.told(1), 0);
        build(x, "press 3");
        due("without again", x.told(1), 20);
    }

    @Of(promise = 11, says = "PRESS (4 without; 1 if less)")
    private static void promise11PressWithoutAndAtLeast() {
        PalmsAltered x = new PalmsAltered();
        due("without a booth", x.told(2), 4);
        build(x, "room 3");
        due("without a clause of it", x.told(2), 4);
        build(x, "press 0");
        due("0", x.told(2), 1);
        build(x, "press 1");
        due("1", x.told(2), 1);
        build(x, "press 2");
        due("2", x.told(2), 2);
        build(x, "press 99");
        due("99", x.told(2), 99);
        build(x, "room 3");
        due("without again", x.told(2), 4);
    }

    @Of(promise = 11, says = "the last one's n.")
    private static void promise11TheLastOnesN() {
        PalmsAltered x = new PalmsAltered();
        build(x, "room 61;press 9;room 7;press 0");
        due("room", x.told(1), 7);
        due("press", x.told(2), 1);
        build(x, "press 0;room 7;press 9;room 61");
        due("room", x.told(1), 60);
        due("press", x.told(2), 9);
    }

    // ---- promise 12: pass

    @Of(promise = 12, says = "BAD;")
    private static void promise12NBad() {
        PalmsAltered x = with(0);
        for (int n : new int[] {-1, 61, MIN, MAX}) due("pass(" + n + ")", x.pass(n), BAD);
        due("day", x.told(0), 0);
        due("length", x.of(0, 10), 30);
    }

    @Of(promise = 12, says = "n DAYS (0 .. 60) go: DAY.")
    private static void promise12TheLeastAndTheMost() {
        PalmsAltered x = one(0, 0, 60);
        due("none", x.pass(0), 0);
        due("as it was", x.of(0, 10), 60);
        due("one", x.pass(1), 1);
        due("one less", x.of(0, 10), 59);
        x.set(0, 0, 60);
        due("the most", x.pass(60), 61);
        due("all faded", x.of(0, 10), 0);
        due("all faded", x.of(0, 11), 0);
    }

    @Of(promise = 12, says = "STATE: it would be above 9999.")
    private static void promise12NotAbove9999() {
        PalmsAltered x = one(0, 0, 60);
        goTo(x, 9940);
        lengths(x, 0, 60, 60, 60);
        due("9940 and 60", x.pass(60), STATE);
        due("length", x.of(0, 10), 60);
        due("day", x.told(0), 9940);
        due("a bad n", x.pass(61), BAD);
        due("9940 and 59", x.pass(59), 9999);
        due("length", x.of(0, 10), 1);
        due("9999 and 1", x.pass(1), STATE);
        due("9999 and 60", x.pass(60), STATE);
        due("9999 and 0", x.pass(0), 9999);
        due("a bad n", x.pass(-1), BAD);
        due("length", x.of(0, 10), 1);
    }

    @Of(promise = 12, says = "each LINE of each FADES (0 at least)")
    private static void promise12FadesNotBelow0() {
        PalmsAltered x = new PalmsAltered();
        x.hand(1, 0, 3);
        x.hand(5, 1, 0);
        x.hand(6, 0, 9);
        x.row(2, 0, 9);
        x.row(2, 1, 9);
        lengths(x, 0, 1, 2, 3);
        lengths(x, 2, 8, 9, 10);
        x.pass(1);
        int[] soft = {0, 0, 1};
        int[] told = {0, 0, 1};
        for (int line = 0; line < 3; line++) {
            due("soft", x.of(0, 10 + line), soft[line]);
            due("farmer", x.of(1, 10 + line), 0);
            due("told", x.of(2, 10 + line), told[line]);
        }
        x.pass(1);
        for (int what = 10; what < 13; what++) for (int hand = 0; hand < 3; hand++) due("all", x.of(hand, what), 0);
    }

    // ---- promise 13: on

    @Of(promise = 13, says = "NONE;")
    private static void promise13WhatNone() {
        PalmsAltered x = with(0, 1, 6);
        for (int what = -70; what < 70; what++) {
            boolean stands = what == 0 || what >= 10 && what < 13 || what >= 20 && what < 29;
            if (!stands) due("on(1, " + what + ")", x.on(1, what), NONE);
            if (stands && x.on(1, what) < 0) due("on(1, " + what + ")", x.on(1, what), 0);
        }
        due("on(1, MIN)", x.on(1, MIN), NONE);
        due("on(1, MAX)", x.on(1, MAX), NONE);
        PalmsAltered y = with(0, 0, 0, 0, 6);
        due("the last hand", y.on(0, 14), 90);
        due("none behind it", y.on(0, 15), NONE);
        due("the last line", y.on(0, 34), 30);
        due("none behind it", y.on(0, 35), NONE);
        due("none ahead of the first", y.on(0, 19), NONE);
        due("all of no hands", new PalmsAltered().on(0, 0), 0);
        due("one of no hands", new PalmsAltered().on(0, 10), NONE);
    }

    @Of(promise = 13, says = "BAD: n.")
    private static void promise13NBad() {
        PalmsAltered x = with(0);
        for (int n : new int[] {-1, 61, MIN, MAX}) {
            for (int what : new int[] {0, 10, 22}) due("on(" + n + ", " + what + ")", x.on(n, what), BAD);
            due("no such what, either", x.on(n, 1), NONE);
            due("no such hand, either", x.on(n, 11), NONE);
        }
    }

    @Of(promise = 13, says = "ON n DAYS (0 .. 60)")
    private static void promise13TheLeastAndTheMost() {
        PalmsAltered x = new PalmsAltered();
        x.hand(0, 0, 60);
        x.hand(3, 0, 60);
        due("none", x.on(0, 20), 60);
        due("59", x.on(59, 20), 1);
        due("60", x.on(60, 20), 0);
        due("60, all", x.on(60, 0), 90);
        due("60, the second", x.on(60, 11), 90);
        due("60, its last line", x.on(60, 25), 30);
    }

    @Of(promise = 13, says = "ON: what 0 FORTUNE of all, 10 and h FORTUNE of HAND h, 20 and 3 times h and l LENGTH of LINE l of HAND h.")
    private static void promise13EachWhat() {
        PalmsAltered x = new PalmsAltered();
        for (int hand = 0; hand < 5; hand++) {
            x.hand(hand % 2 == 0 ? 0 : 1, hand, 0);
            lengths(x, hand, 10 * hand + 3, 10 * hand + 6, 10 * hand + 9);
        }
        int all = 0;
        for (int hand = 0; hand < 5; hand++) {
            int fortune = hand % 2 == 0 ? 0 : hand;
            for (int line = 0; line < 3; line++) {
                int length = Math.max(0, 10 * hand + 3 * line + 3 - (hand % 2 == 0 ? 4 : 8));
                due("line " + line + " of hand " + hand, x.on(4, 20 + 3 * hand + line), length);
                fortune += length;
            }
            due("fortune of hand " + hand, x.on(4, 10 + hand), fortune);
            all += fortune;
        }
        due("fortune of all", x.on(4, 0), all);
    }

    @Of(promise = 13, says = "goes on from how all is (DAYS beyond 9999, too), and changes nothing.")
    private static void promise13DaysBeyond9999() {
        PalmsAltered x = with(0, 3, 6, 4);
        goTo(x, 9999);
        for (int hand = 0; hand < 4; hand++) lengths(x, hand, 60, 60, 60);
        for (int part = 0; part < 4; part++) x.row(2, part, part + 1);
        build(x, "bless 7 d=0;blight 2 d=9;bless 1 d=3");
        // days 9999, 10000, 10001, 10002 go: the row is 4, 1, 2, 3 and an odd day 1 more
        int[] told = {60, 60 - 5, 60 - 6, 60 - 9, 60 - 12, 60 - 17};
        int[] gloved = {60, 59, 59, 58, 58, 57};
        int[] grace = {-2, 7, 0, 0, 1, 0};
        for (int n = 0; n < 6; n++) {
            due("told, behind " + n, x.on(n, 26), told[n]);
            due("gloved, behind " + n, x.on(n, 23), gloved[n]);
            due("hand, behind " + n, x.on(n, 20), 60 - n);
            due("milky, behind " + n, x.on(n, 31), 60 - n);
            due("fortune of gloved, behind " + n, x.on(n, 11), 3 * (gloved[n] + grace[n]));
        }
        due("day", x.told(0), 9999);
        due("length", x.of(2, 10), 60);
    }

    // ---- promise 14: lasts

    @Of(promise = 14, says = "NONE;")
    private static void promise14HandNone() {
        PalmsAltered x = with(0, 1);
        for (int hand : new int[] {-1, 2, 4, 5, MIN, MAX}) due("hand " + hand, x.lasts(hand, 1), NONE);
        due("hand and q", x.lasts(2, 1000), NONE);
        due("hand and q", x.lasts(-1, -1), NONE);
    }

    @Of(promise = 14, says = "BAD: q.")
    private static void promise14QBad() {
        PalmsAltered x = with(0);
        for (int q : new int[] {-1, 1000, MIN, MAX}) due("q " + q, x.lasts(0, q), BAD);
    }

    @Of(promise = 14, says = "LASTS of one and q (0 .. 999)")
    private static void promise14TheLeastAndTheMostQ() {
        PalmsAltered x = with(0);
        due("q 0", x.lasts(0, 0), -5);
        due("q 999", x.lasts(0, 999), 0);
        build(x, "bless 99 h=0;bless 99 h=0;bless 99 h=0;bless 99 h=0;bless 99 h=0;bless 99 h=0;bless 99 h=0");
        due("fortune", x.of(0, 3), 3 * (30 + 693));
        due("q 999, with more", x.lasts(0, 999), 30);
    }

    @Of(promise = 14, says = "the fewest DAYS (0 .. 60) behind which its FORTUNE is less than q (-5: not by then).")
    private static void promise14TheFewestDays() {
        PalmsAltered x = one(0, 0, 60);
        due("at once", x.lasts(0, 181), 0);
        due("just as much is not less", x.lasts(0, 180), 1);
        due("behind 59", x.lasts(0, 4), 59);
        due("behind 60", x.lasts(0, 3), 60);
        due("behind 60", x.lasts(0, 1), 60);
        PalmsAltered y = one(3, 0, 60);
        y.pass(1);
        // from day 1 on the gloved one is less behind 1, 3 .. 59, 61 days
        due("gloved, behind 59", y.lasts(0, 91), 59);
        due("gloved, behind 61 only", y.lasts(0, 90), -5);
        due("gloved, on 60", y.on(60, 10), 90);
        PalmsAltered z = one(2, 8, 60);
        due("never less", z.lasts(0, 180), -5);
        due("less from the first on", z.lasts(0, 181), 0);
        PalmsAltered w = one(0, 0, 10);
        build(w, "blight 9 d=4");
        due("less on one day alone", w.lasts(0, 5), 4);
    }

    @Of(promise = 14, says = "LASTS; -5.")
    private static void promise14NotByThen() {
        PalmsAltered x = new PalmsAltered();
        x.hand(4, 9, 60);
        x.hand(1, 9, 60);
        x.hand(2, 2, 1);
        due("milky is never less than 0", x.lasts(0, 0), -5);
        due("milky is less than 1 at once", x.lasts(0, 1), 0);
        due("soft is never less than its v", x.lasts(1, 9), -5);
        due("soft, less than one more", x.lasts(1, 10), 30);
        due("rough that does not fade", x.lasts(2, 3), -5);
        due("rough, less than one more", x.lasts(2, 4), 0);
    }

    @Of(promise = 14, says = "goes on from how all is (DAYS beyond 9999, too), and changes nothing.")
    private static void promise14DaysBeyond9999() {
        PalmsAltered x = with(0);
        goTo(x, 9999);
        x.set(0, 0, 60);
        due("the first below", x.lasts(0, 60), 1);
        due("at last", x.lasts(0, 1), 60);
        due("day", x.told(0), 9999);
        due("length", x.of(0, 10), 60);
    }

    public static void main(String[] args) throws Exception {
        Sentences.run(HandsBoundaryTest.class);
    }
}
