/** Each promise by itself: ordinary inputs, the edges that the document names, and wrong inputs. */
public final class PromisesTest {
    private static int wrong = 0;
    private static int promise = 0;

    private static void due(String what, long got, long want) {
        if (got != want) {
            wrong++;
            System.out.println("promise " + promise + ": " + what + " answered " + got + ", due is " + want);
        }
    }

    private static PalmsAltered with(int... kinds) {
        PalmsAltered x = new PalmsAltered();
        for (int kind : kinds) x.hand(kind, 5, 30);
        return x;
    }

    private static int build(PalmsAltered x, String text) {
        for (int n = 0; n < text.length(); n++) x.feed(text.charAt(n));
        return x.booth();
    }

    private static void lengths(PalmsAltered x, int hand, int... lengths) {
        for (int line = 0; line < 3; line++) x.set(hand, line, lengths[line]);
    }

    private static void newObject() {
        promise = 1;
        PalmsAltered x = new PalmsAltered();
        int[] told = {0, 20, 4, 100, 0, 0};
        for (int what = 0; what < told.length; what++) due("told " + what, x.told(what), told[what]);
        for (int what = 0; what < 7; what++) due("count " + what, x.count(what), 0);
        due("of", x.of(0, 0), -1001);
        due("undo", x.undo(), -3);
        due("trace", x.trace(0), -1);
        due("read", x.read(0, 0), PalmsAltered.NO);
        due("item", x.item(0, 0, 0), -11);
    }

    private static void hands() {
        promise = 2;
        PalmsAltered x = new PalmsAltered();
        due("kind -1", x.hand(-1, 10, 61), -1);
        due("kind 7", x.hand(7, 0, 0), -1);
        due("v -1", x.hand(0, -1, 0), -2);
        due("v 10", x.hand(0, 10, 0), -2);
        due("length -1", x.hand(0, 0, -1), -2);
        due("length 61", x.hand(0, 0, 61), -2);
        for (int n = 0; n < 5; n++) due("hand " + n, x.hand(n + 2, 9, 60), n);
        due("a sixth", x.hand(0, 0, 0), -4);
        due("a sixth of no kind", x.hand(7, 0, 0), -1);
        due("a sixth with a bad v", x.hand(0, 10, 0), -2);
        due("how many", x.count(0), 5);
        for (int line = 0; line < 3; line++) due("line", x.of(4, 10 + line), 60);
        due("line 3", x.of(4, 13), -1001);
        due("shook", x.of(4, 2), 0);
    }

    private static void parts() {
        promise = 3;
        PalmsAltered x = with(0, 1, 2, 3, 6);
        for (int hand = 0; hand < 5; hand++) {
            due("kind", x.of(hand, 0), hand == 4 ? 6 : hand);
            due("v", x.of(hand, 1), 5);
            due("shook", x.of(hand, 2), 0);
            due("fortune", x.of(hand, 3), hand == 1 ? 95 : 90);
            for (int line = 0; line < 3; line++) {
                due("length", x.of(hand, 10 + line), 30);
                due("grace", x.of(hand, 20 + line), 0);
                due("worth", x.of(hand, 30 + line), 30);
            }
        }
        int[] none = {-1, 5, 6, 9, 13, 19, 23, 29, 33, 40, 99, Integer.MAX_VALUE, Integer.MIN_VALUE, -11, -31};
        for (int what : none) due("of(0, " + what + ")", x.of(0, what), -1001);
        due("hand -1", x.of(-1, 0), -1001);
        due("hand 5", x.of(5, 0), -1001);
        PalmsAltered y = with(4, 5, 5);
        y.hand(5, 4, 1);
        due("fortune of a milky one", y.of(0, 3), 0);
        due("worth of its line", y.of(0, 30), 30);
        due("fades of a milky one", y.of(0, 4), 1);
        due("fades of a farmer's", y.of(1, 4), 2);
        due("fades of a farmer's with an even v", y.of(3, 4), 1);
        fades(x);
        graces();
    }

    private static void fades(PalmsAltered x) {
        int[] row = {0, 3, 9, 7};
        for (int part = 0; part < 4; part++) x.row(4, part, row[part]);
        for (int day = 0; day < 9; day++) {
            due("fades of a hand", x.of(0, 4), 1);
            due("fades of a soft one", x.of(1, 4), 2);
            due("fades of a rough one", x.of(2, 4), 1);
            due("fades of a gloved one on day " + day, x.of(3, 4), day % 2);
            due("fades of a told one on day " + day, x.of(4, 4), day % 2 + row[day % 4]);
            x.pass(1);
        }
        PalmsAltered y = new PalmsAltered();
        y.hand(2, 4, 9);
        due("fades of a rough one with an even v", y.of(0, 4), 0);
    }

    private static void graces() {
        PalmsAltered x = with(0, 1);
        lengths(x, 0, 0, 10, 2);
        build(x, "bless 50 l=0;blight 5 x<9;bless 2 x<9");
        due("grace of the first", x.of(0, 20), 47);
        due("grace of the third", x.of(0, 22), -3);
        due("worth of no length", x.of(0, 30), 0);
        due("worth of no grace", x.of(0, 31), 10);
        due("worth is not below 0", x.of(0, 32), 0);
        due("fortune", x.of(0, 3), 10);
        due("fortune of the soft one", x.of(1, 3), 80 + 30 + 30 + 5);
    }

    private static void setting() {
        promise = 4;
        PalmsAltered x = with(0, 1);
        due("set", x.set(1, 2, 60), 30);
        due("set again", x.set(1, 2, 0), 60);
        due("what it is", x.of(1, 12), 0);
        due("its neighbour", x.of(1, 11), 30);
        due("hand", x.set(2, 0, 61), -1);
        due("hand -1", x.set(-1, 0, 0), -1);
        due("line", x.set(0, 3, -1), -1);
        due("line -1", x.set(0, -1, 0), -1);
        due("n 61", x.set(0, 0, 61), -2);
        due("n -1", x.set(0, 0, -1), -2);
        due("unchanged", x.of(0, 10), 30);
    }

    private static void rows() {
        promise = 5;
        PalmsAltered x = with(6, 3);
        due("row", x.row(0, 3, 9), 0);
        due("row again", x.row(0, 3, 1), 9);
        due("another part", x.row(0, 2, 1), 0);
        due("hand", x.row(2, 0, 0), -1);
        due("part 4", x.row(1, 4, 10), -1);
        due("part -1", x.row(0, -1, 0), -1);
        due("n 10", x.row(1, 0, 10), -2);
        due("n -1", x.row(0, 0, -1), -2);
        due("another kind", x.row(1, 0, 0), -3);
    }

    private static void inks() {
        promise = 6;
        PalmsAltered x = new PalmsAltered();
        due("ink", x.ink(999), 100);
        due("ink 1000", x.ink(1000), -2);
        due("ink -1", x.ink(-1), -2);
        due("ink 0", x.ink(0), 999);
        due("told", x.told(3), 0);
    }

    private static void drawing() {
        promise = 7;
        PalmsAltered x = with(0);
        lengths(x, 0, 5, 20, 30);
        due("up to n", x.draw(0, 0, 7), 7);
        due("ink is less", x.told(3), 93);
        due("up to the room", x.draw(0, 0, 60), 8);
        due("full", x.draw(0, 1, 9), 0);
        due("longer than the room", x.draw(0, 2, 9), 0);
        due("ink", x.ink(3), 85);
        due("set", x.set(0, 0, 0), 20);
        due("up to the ink", x.draw(0, 0, 9), 3);
        due("no ink", x.draw(0, 0, 9), 0);
        due("told", x.told(3), 0);
        due("hand", x.draw(1, 0, 61), -1);
        due("line", x.draw(0, 3, 61), -1);
        due("n 61", x.draw(0, 0, 61), -2);
        due("n -1", x.draw(0, 0, -1), -2);
        due("n 0", x.draw(0, 0, 0), 0);
    }

    private static void shaking() {
        promise = 8;
        PalmsAltered x = with(0, 1, 3, 6, 4);
        lengths(x, 0, 10, 20, 30);
        lengths(x, 1, 21, 13, 30);
        due("shake", x.shake(0, 1), 2 + 1);
        int[] of0 = {12, 20, 30};
        int[] of1 = {21, 14, 30};
        for (int line = 0; line < 3; line++) {
            due("line of one", x.of(0, 10 + line), of0[line]);
            due("line of the other", x.of(1, 10 + line), of1[line]);
        }
        due("gloved", x.shake(0, 2), 0);
        due("told", x.shake(3, 1), 0);
        due("milky", x.shake(4, 0), 4 + 2);
        int[] shook = {3, 2, 1, 1, 1};
        for (int hand = 0; hand < 5; hand++) due("shook", x.of(hand, 2), shook[hand]);
        due("one is both", x.shake(1, 1), -2);
        due("none", x.shake(5, 5), -1);
        due("none", x.shake(0, -1), -1);
        due("unchanged", x.of(1, 2), 2);
    }

    private static void feeding() {
        promise = 9;
        PalmsAltered x = new PalmsAltered();
        due("sign -1", x.feed(-1), -2);
        due("sign 128", x.feed(128), -2);
        for (int n = 1; n <= 100; n++) due("feed", x.feed(n == 1 ? 0 : 127), n);
        due("a 101st", x.feed(1), -4);
        due("a bad 101st", x.feed(128), -2);
        due("how many", x.count(5), 100);
    }

    private static void boothing() {
        promise = 10;
        endsTooEarly();
        faults();
        clauses();
        sixBooths();
        meanings();
    }

    private static void endsTooEarly() {
        String[] faulty = {
            "", "b", "bl", "bless", "bless ", "bless 1", "bless 1 ", "bless 1 h", "bless 1 h=", "bless 1 (h=1",
            "bless 1 !", "bless 1 h=1&", "bless 1 h=1|", "bless 1 h=1;", "room", "room ", "press", "blight 12"};
        PalmsAltered x = with(0);
        for (String text : faulty) due("'" + text + "' that ends too early", build(x, text), -10 - text.length());
        for (String whole : faulty) {
            PalmsAltered y = with(0);
            for (int size = whole.length(); size >= 0; size--) {
                String text = whole.substring(0, size);
                if (!text.equals("bless 1 h=1")) {
                    due("'" + text + "' behind a longer one", build(y, text), -10 - size);
                }
            }
        }
        due("100 bytes that end too early", build(with(0), "bless 1 " + "h=9|".repeat(22) + "h=0|"), -10 - 100);
    }

    private static void faults() {
        Object[][] faults = {
            {"x", 0}, {" room 1", 0}, {"Bless 1 h=1", 0}, {"bx", 1}, {"blx", 2}, {"blish", 3}, {"blesx", 4},
            {"bless1 h=1", 5}, {"bless  1 h=1", 6}, {"bless x h=1", 6}, {"bless 1h=1", 7}, {"bless 123 h=1", 8},
            {"bless 1 q=1", 8}, {"bless 1  h=1", 8}, {"bless 1 h1", 9}, {"bless 1 h=x", 10}, {"bless 1 h=123", 12},
            {"bless 1 h=1 ", 11}, {"bless 1 h=1)", 11}, {"bless 1 (h=1;room 1", 12}, {"bless 1 ()", 9},
            {"bless 1 h=1&|", 12}, {"bless 1 h=1||h=1", 12}, {"bless 1 !!!!!h=1", 12}, {"bless 1 (((((h=1", 12},
            {"bless 1 !(!(!", 12}, {"bless 1 !(!((", 12}, {"bless 1 h!1", 9}, {"bless 1 h==1", 10},
            {"room 1 h=1", 6}, {"room 123", 7}, {"room x", 5}, {"room :", 5}, {"room 1:", 6}, {"room 1/", 6},
            {"room /", 5}, {"rroom 1", 1}, {"press 1;", 8}, {"press 1,", 7}, {"press 1;;", 8}, {"prose 1", 2},
            {"press -1", 6}};
        for (Object[] fault : faults) {
            PalmsAltered x = with(0);
            due("'" + fault[0] + "'", build(x, (String) fault[0]), -10 - (Integer) fault[1]);
            due("no booth", x.count(1), 0);
            due("no room of it", x.told(1), 20);
        }
    }

    private static void clauses() {
        PalmsAltered x = with(0);
        due("ten clauses", build(x, "room 1;room 2;room 3;room 4;room 5;room 6;room 7;room 8;room 9;room 47"), 0);
        due("the last one's room", x.told(1), 47);
        due("eleven clauses", build(x, "press 1;room 2;room 3;room 4;room 5;room 6;room 7;room 8;room 9;room 1;"), -10 - 70);
        due("a third digit behind ten", build(x, "press 1;room 2;room 3;room 4;room 5;room 6;room 7;room 8;room 9;room 100"), -10 - 71);
        due("the one that held holds", x.told(1), 47);
        due("the text is empty", x.count(5), 0);
        due("100 bytes", build(x, "bless 11 " + "h=9|".repeat(22) + "h=0"), 1);
        due("their grace", x.of(0, 20), 11);
    }

    private static void sixBooths() {
        PalmsAltered x = with(0);
        due("a room", build(x, "room 47"), 0);
        due("four about it", build(x, "bless 1 !!!!h=1&((((h=0))))|!(!(h>99))"), 1);
        due("without its room", x.told(1), 20);
        for (int n = 2; n < 6; n++) due("booth", build(x, "bless 0" + n + " h=0"), n);
        due("grace", x.of(0, 20), 5);
        due("a seventh", build(x, "x"), -4);
        due("the text stays", x.count(5), 1);
        due("how many", x.count(1), 6);
    }

    private static void meanings() {
        // all are asked of hand 1, line 2: h 1, l 2, k 3, v 1, x 8, d 3
        Object[][] tests = {
            {"h=1", 1}, {"h=2", 0}, {"h<1", 0}, {"h<2", 1}, {"h>0", 1}, {"h>1", 0}, {"l=2", 1}, {"l=02", 1}, {"l>2", 0},
            {"k=3", 1}, {"k>3", 0}, {"v=1", 1}, {"v=7", 0}, {"x=8", 1}, {"x=08", 1}, {"x<9", 1}, {"x<60", 1}, {"x>7", 1},
            {"d=3", 1}, {"d=13", 0}, {"d>3", 0}, {"!h=1", 0}, {"!!h=1", 1}, {"!(h=1)", 0}, {"(h=2)", 0},
            {"h=1&l=1", 0}, {"h=1&l=2", 1}, {"h=2|l=2", 1}, {"h=2|l=1", 0},
            {"h=1|h=1&h=2", 1}, {"h=2&h=1|h=1", 1}, {"(h=1|h=1)&h=2", 0}, {"h=2&(h=1|h=1)", 0},
            {"!h=2&h=2", 0}, {"!(h=2&h=2)", 1}, {"!h=1|h=1", 1}, {"!(h=1|h=1)", 0}, {"h=1&h=1&h=2|h=2", 0},
            {"h=2|h=2|h=2|l=2", 1}, {"h=1&!(h=2|!(l=2&k=3))", 1}, {"h=0|(h=1&(h=2|(h=1&(x=8))))", 1}};
        for (Object[] test : tests) {
            PalmsAltered y = new PalmsAltered();
            y.hand(2, 7, 40);
            y.hand(3, 1, 60);
            y.pass(13);
            y.set(1, 2, 8);
            build(y, "bless 7 " + test[0]);
            due("grace by " + test[0], y.of(1, 22), 7 * (Integer) test[1]);
        }
    }

    private static void telling() {
        promise = 11;
        PalmsAltered x = with(0, 1);
        int[] told = {0, 20, 4, 100, 185, 180};
        for (int what = 0; what < 6; what++) due("told " + what, x.told(what), told[what]);
        due("told -1", x.told(-1), -1);
        due("told 6", x.told(6), -1);
        x.pass(9);
        due("day", x.told(0), 9);
        due("length", x.told(5), 63 + 36);
        build(x, "room 60;press 1;press 0;room 61");
        due("room at most", x.told(1), 60);
        due("press at least", x.told(2), 1);
        build(x, "room 98");
        build(x, "room 9");
        due("room 9", x.told(1), 9);
        build(x, "room 99;room 0;press 99");
        due("room 0", x.told(1), 0);
        due("press 99", x.told(2), 99);
    }

    private static void passing() {
        promise = 12;
        PalmsAltered x = with(0, 1, 3);
        due("0", x.pass(0), 0);
        due("-1", x.pass(-1), -2);
        due("61", x.pass(61), -2);
        due("4", x.pass(4), 4);
        due("hand", x.of(0, 10), 26);
        due("soft", x.of(1, 11), 22);
        due("gloved", x.of(2, 12), 28);
        due("60", x.pass(60), 64);
        due("not below 0", x.of(0, 10), 0);
        due("gloved", x.of(2, 10), 0);
        for (int n = 0; n < 165; n++) x.pass(60);
        due("day", x.told(0), 9964);
        due("too far", x.pass(36), -3);
        due("unchanged", x.told(0), 9964);
        due("the last", x.pass(35), 9999);
        due("one more", x.pass(1), -3);
        due("none more", x.pass(0), 9999);
        x.set(2, 0, 50);
        due("days beyond", x.on(3, 26), 50 - 2);
    }

    private static void onDays() {
        promise = 13;
        PalmsAltered x = with(0, 1, 6);
        x.row(2, 1, 4);
        build(x, "bless 9 d=3&h=0");
        due("all", x.on(0, 0), 90 + 95 + 90);
        due("all on day 3", x.on(3, 0), 3 * 36 + 3 * 24 + 5 + 3 * 25);
        due("the first", x.on(3, 10), 108);
        due("the second", x.on(3, 11), 77);
        due("a line", x.on(3, 28), 25);
        due("a line", x.on(60, 20), 0);
        due("the soft one's fortune", x.on(60, 11), 5);
        due("no such hand", x.on(61, 13), -1);
        due("no such line", x.on(0, 29), -1);
        due("what 1", x.on(0, 1), -1);
        due("what 9", x.on(0, 9), -1);
        due("what 15", x.on(0, 15), -1);
        due("what 19", x.on(0, 19), -1);
        due("what -1", x.on(0, -1), -1);
        due("what 35", x.on(0, 35), -1);
        due("what far off", x.on(0, Integer.MAX_VALUE), -1);
        due("n", x.on(61, 0), -2);
        due("n", x.on(-1, 10), -2);
        due("nothing changed", x.told(0), 0);
        due("nothing changed", x.told(5), 270);
    }

    private static void lasting() {
        promise = 14;
        PalmsAltered x = with(0, 1);
        x.hand(2, 4, 30);
        due("at once", x.lasts(0, 91), 0);
        due("tomorrow", x.lasts(0, 90), 1);
        due("later", x.lasts(0, 1), 30);
        due("never below 0", x.lasts(0, 0), -5);
        due("soft", x.lasts(1, 6), 15);
        due("soft, never", x.lasts(1, 5), -5);
        due("rough, never", x.lasts(2, 90), -5);
        due("q", x.lasts(0, 999), 0);
        due("q 1000", x.lasts(0, 1000), -2);
        due("q -1", x.lasts(0, -1), -2);
        due("hand", x.lasts(3, -1), -1);
        PalmsAltered y = new PalmsAltered();
        y.hand(0, 0, 60);
        due("on the 60th day", y.lasts(0, 1), 60);
        PalmsAltered z = with(0);
        build(z, "bless 30 d>0&x>0");
        due("grace by the day", z.lasts(0, 91), 0);
        due("by then more", z.lasts(0, 90), 10);
    }

    private static void penning() {
        promise = 15;
        PalmsAltered x = with(0);
        lengths(x, 0, 20, 12, 11);
        due("the first with most", x.pen(0, 5), 1);
        due("the most room", x.pen(0, 9), 2);
        x.ink(4);
        due("as there is ink", x.pen(0, 9), 1);
        x.ink(0);
        due("no ink", x.pen(0, 9), 0);
        due("n 1", x.pen(0, 1), 0);
        due("n 0", x.pen(0, 0), -2);
        due("n 10", x.pen(0, 10), -2);
        due("hand", x.pen(1, 0), -1);
        x.ink(50);
        build(x, "bless 20 l=2&x>13;blight 20 l=1");
        due("by grace", x.pen(0, 3), 2);
        due("nothing changed", x.told(3), 50);
    }

    private static void sharing() {
        promise = 16;
        PalmsAltered x = with(0, 4);
        lengths(x, 0, 15, 17, 3);
        int[] due = {66 - 31 + 12, 5, 3, 4};
        for (int k = -1; k < 3; k++) due("share k " + k, x.share(0, 12, k), due[k + 1]);
        for (int k = -1; k < 3; k++) due("share of 0, k " + k, x.share(0, 0, k), k < 0 ? 35 : 0);
        int[] milky = {0, 7, 0, 0};
        for (int k = -1; k < 3; k++) due("all alike, k " + k, x.share(1, 7, k), milky[k + 1]);
        x.ink(6);
        int[] inked = {38 + 6, 11, 0, 1};
        lengths(x, 0, 15, 20, 3);
        for (int k = -1; k < 3; k++) due("as there is ink, k " + k, x.share(0, 12, k), inked[k + 1]);
        due("k 3", x.share(0, 13, 3), -1);
        due("k -2", x.share(0, 0, -2), -1);
        due("hand", x.share(2, 13, 0), -1);
        due("n 13", x.share(0, 13, 0), -2);
        due("n -1", x.share(0, -1, 0), -2);
        due("nothing changed", x.told(3), 6);
    }

    private static void meeting() {
        promise = 17;
        PalmsAltered x = with(0);
        due("one alone", x.meet(), -5);
        x.hand(0, 0, 10);
        x.hand(0, 0, 10);
        x.hand(3, 0, 0);
        due("the first of several", x.meet(), 1);
        x.set(2, 0, 2);
        due("the most", x.meet(), 2);
        lengths(x, 0, 9, 10, 10);
        due("among others", x.meet(), 12);
        PalmsAltered y = with(0, 3, 6);
        lengths(y, 0, 1, 1, 1);
        due("gloves", y.meet(), -5);
        PalmsAltered z = with(0, 0);
        z.set(0, 0, 10);
        build(z, "blight 60 x=15&h=0");
        due("less than it is", z.meet(), -5);
        due("nothing changed", z.of(0, 2), 0);
    }

    private static void booking() {
        promise = 18;
        PalmsAltered x = with(0, 0);
        due("hand", x.book(2, 0, 61), -1);
        due("hand -2", x.book(-2, 0, 0), -1);
        due("line", x.book(0, 3, 61), -1);
        due("length 61", x.book(0, 0, 61), -2);
        due("length -1", x.book(0, 0, -1), -2);
        for (int n = 1; n <= 8; n++) due("book", x.book(n % 2, n % 3, 60), n);
        due("a ninth", x.book(0, 0, 0), -4);
        due("a bad ninth", x.book(0, 0, 61), -2);
        due("how many", x.count(4), 8);
        due("empty", x.book(-1, 99, -99), 0);
        due("how many", x.count(4), 0);
    }

    private static void looking() {
        promise = 19;
        PalmsAltered x = with(0, 0);
        due("empty", x.looked(), -5);
        x.book(0, 0, 30);
        x.book(1, 2, 30);
        due("so", x.looked(), -5);
        x.set(1, 2, 29);
        due("otherwise", x.looked(), 1);
        x.set(0, 0, 29);
        due("the first", x.looked(), 0);
    }

    private static void shakenHands() {
        promise = 20;
        PalmsAltered x = with(0, 0, 0);
        lengths(x, 0, 0, 0, 0);
        lengths(x, 1, 40, 0, 0);
        lengths(x, 2, 0, 0, 20);
        int[] none = {0, -5, -5, -5};
        for (int k = -1; k < 3; k++) due("an empty book", x.shaken(k), none[k + 1]);
        x.book(0, 0, 10);
        int[] once = {1, 1, -5, -5};
        for (int k = -1; k < 3; k++) due("once", x.shaken(k), once[k + 1]);
        x.book(2, 0, 2);
        int[] twice = {2, 1, 2, -5};
        for (int k = -1; k < 3; k++) due("twice", x.shaken(k), twice[k + 1]);
        x.book(-1, 0, 0);
        x.book(0, 0, 17);
        x.book(2, 0, 2);
        x.book(0, 2, 5);
        x.book(1, 2, 1);
        int[] thrice = {3, 1, 2, 1};
        for (int k = -1; k < 3; k++) due("thrice", x.shaken(k), thrice[k + 1]);
        x.book(1, 1, 1);
        for (int k = -1; k < 3; k++) due("never", x.shaken(k), -5);
        due("k 3", x.shaken(3), -1);
        due("k -2", x.shaken(-2), -1);
        due("nothing changed", x.of(0, 2), 0);
        PalmsAltered z = with(3, 0, 0, 0);
        lengths(z, 3, 10, 10, 10);
        z.book(3, 1, 15);
        due("two others", z.shaken(0), 13);
        z.book(2, 2, 29);
        due("two others, never", z.shaken(0), -5);
        PalmsAltered y = with(3, 6);
        y.book(0, 0, 31);
        due("gloves", y.shaken(-1), -5);
    }

    private static void seeing() {
        promise = 21;
        PalmsAltered x = with(0, 0);
        due("hand", x.see(2, 0, 61, 21), -1);
        due("line", x.see(0, 3, 61, 21), -1);
        due("length 61", x.see(0, 0, 61, 0), -2);
        due("length -1", x.see(0, 0, -1, 0), -2);
        due("n 21", x.see(0, 0, 0, 21), -2);
        due("n -1", x.see(0, 0, 0, -1), -2);
        for (int n = 1; n <= 5; n++) due("see", x.see(1, 2, 60, 20), n);
        due("a sixth", x.see(0, 0, 0, 0), -4);
        due("a bad sixth", x.see(0, 0, 0, 21), -2);
        due("how many", x.count(2), 5);
        due("none", x.see(-1, 9, 99, 99), 0);
        due("how many", x.count(2), 0);
    }

    private static void wasSeen() {
        promise = 22;
        PalmsAltered x = with(1, 0);
        due("nothing seen", x.was(0, 0, 0), 61);
        due("nothing seen, the least", x.was(0, 0, 1), 0);
        x.see(0, 1, 0, 5);
        due("faded", x.was(0, 1, 0), 11);
        due("faded, the least", x.was(0, 1, 1), 0);
        due("another line", x.was(0, 0, 0), 0);
        due("another line, the least", x.was(0, 0, 1), -5);
        x.see(0, 1, 2, 4);
        due("one", x.was(0, 1, 0), 1);
        due("one, the least", x.was(0, 1, 1), 10);
        x.pass(3);
        due("behind days from now", x.was(0, 1, 1), 10);
        x.see(1, 0, 59, 0);
        due("otherwise", x.was(0, 1, 0), 0);
        due("otherwise, the least", x.was(0, 1, 1), -5);
        due("hand", x.was(2, 0, 0), -1);
        due("line", x.was(0, 3, 0), -1);
        due("what 2", x.was(0, 0, 2), -1);
        due("what -1", x.was(0, 0, -1), -1);
        due("nothing changed", x.of(0, 11), 24);
    }

    private static void couldBe() {
        promise = 23;
        PalmsAltered x = with(5, 2, 0);
        due("nothing seen", x.can(0, 0), 10);
        due("nothing seen, the least", x.can(0, 1), 0);
        x.see(0, 0, 26, 2);
        due("odd ones", x.can(0, 0), 5);
        due("odd ones, the least", x.can(0, 1), 1);
        due("as it is", x.can(1, 0), 10);
        x.see(1, 0, 30, 2);
        due("another's is otherwise", x.can(0, 0), 0);
        due("another's is otherwise, the least", x.can(0, 1), -5);
        due("even ones", x.can(1, 0), 5);
        due("even ones, the least", x.can(1, 1), 0);
        due("hand", x.can(3, 0), -1);
        due("what 2", x.can(0, 2), -1);
        due("what -1", x.can(0, -1), -1);
        due("nothing changed", x.of(0, 1), 5);
    }

    private static void likely() {
        promise = 24;
        long no = Long.MIN_VALUE;
        PalmsAltered x = with(0);
        due("one alone", x.odds(0, 0), no);
        x.hand(0, 0, 10);
        due("the only two", x.odds(0, 0), 1);
        due("the only two", x.odds(135, 0), 1);
        due("the only two", x.odds(136, 0), 0);
        x.hand(0, 0, 20);
        x.hand(3, 0, 0);
        // 0 and 1: 15 more; 0 and 2: 6 more; 1 and 2: 6 more; three more with gloves; 180 now
        due("all", x.odds(180, 0), 1);
        due("all", x.odds(180, 1), 1);
        due("half above", x.odds(186, 0), 1);
        due("half below", x.odds(186, 1), 2);
        due("a sixth above", x.odds(195, 0), 1);
        due("a sixth below", x.odds(195, 1), 6);
        due("none above", x.odds(196, 0), 0);
        due("none below", x.odds(999, 1), 1);
        due("part 2", x.odds(0, 2), no);
        due("part -1", x.odds(0, -1), no);
        due("q 1000", x.odds(1000, 0), no);
        due("q -1", x.odds(-1, 0), no);
        due("nothing changed", x.told(5), 180);
    }

    private static void means() {
        promise = 25;
        long no = Long.MIN_VALUE;
        PalmsAltered x = new PalmsAltered();
        due("none", x.mean(0, 0), no);
        x.hand(0, 0, 10);
        due("one alone", x.mean(0, 0), 30);
        due("one alone", x.mean(0, 1), 1);
        x.hand(3, 0, 9);
        x.set(1, 0, 11);
        // 30 and 29 now; 27 and 29 tomorrow; 24 and 26 the day after
        due("now above", x.mean(0, 0), 59);
        due("now below", x.mean(0, 1), 2);
        due("tomorrow above", x.mean(1, 0), 28);
        due("tomorrow below", x.mean(1, 1), 1);
        due("later above", x.mean(2, 0), 25);
        due("at last above", x.mean(60, 0), 0);
        due("at last below", x.mean(60, 1), 1);
        due("n 61", x.mean(61, 0), no);
        due("n -1", x.mean(-1, 0), no);
        due("part 2", x.mean(0, 2), no);
        due("part -1", x.mean(0, -1), no);
        due("nothing changed", x.told(0), 0);
    }

    private static void fairs() {
        promise = 26;
        PalmsAltered x = with(0, 0);
        due("none", x.fair(0, 2), -1);
        due("none", x.fair(2, 2), -1);
        due("none", x.fair(4, 0), -1);
        due("none", x.fair(-2, 0), -1);
        due("none", x.fair(6, 0), -1);
        due("one is both", x.fair(1, 1), -2);
        due("shakes", x.fair(0, 1), 1);
        for (int n = 2; n <= 10; n++) due("a day", x.fair(5, n * 7 - 40), n);
        due("an eleventh", x.fair(5, 0), -4);
        due("an eleventh of one", x.fair(0, 0), -2);
        due("an eleventh of none", x.fair(0, 5), -1);
        due("how many", x.count(3), 10);
        due("empty", x.fair(-1, 77), 0);
        due("how many", x.count(3), 0);
    }

    private static void ending() {
        promise = 27;
        PalmsAltered x = with(0, 1, 3);
        x.set(0, 0, 10);
        due("as it is", x.ends(0), 70 + 95 + 90);
        due("as it is", x.ends(1), 70 + 90 + 90);
        x.fair(0, 1);
        due("a shake", x.ends(1), 75 + 90 + 90);
        x.fair(5, 0);
        due("a shake and a day", x.ends(1), 72 + 84 + 90);
        x.fair(5, 0);
        x.fair(1, 0);
        // hand 0: 13, 28, 28; hand 1: 26, 26, 26; hand 2: 29, 29, 29; 13 is 3 more
        due("two of each", x.ends(1), 13 + 28 + 28 + 78 + 87 + 3);
        due("their fortune", x.ends(0), 13 + 28 + 28 + 78 + 87 + 3 + 5);
        due("what 2", x.ends(2), -1);
        due("what -1", x.ends(-1), -1);
        due("nothing changed", x.told(5), 250);
        due("nothing changed", x.told(0), 0);
        build(x, "bless 10 d=2&h=0");
        due("grace on that day", x.ends(0), 13 + 28 + 28 + 78 + 87 + 3 + 5 + 30);
        x.fair(-1, 0);
        due("nothing goes any more", x.ends(1), 250);
        x.fair(5, 0);
        due("a day alone", x.ends(1), 250 - 3 - 6);
    }

    private static void judging() {
        promise = 28;
        PalmsAltered x = new PalmsAltered();
        due("none to look at", x.judge(0, 0), -5);
        due("none to look at, at no place", x.judge(0, -1), -5);
        x.hand(0, 0, 10);
        x.hand(0, 0, 20);
        due("holds nothing", x.judge(0, 0), 100);
        x.tape(0, 0, 9);
        for (int n = 0; n < 6; n++) x.item(0, n + 1, n < 3 ? 10 : 20);
        due("so", x.judge(0, 1), -5);
        due("otherwise at once", x.judge(0, 0), 0);
        due("otherwise", x.judge(0, 2), 2);
        x.set(1, 2, 21);
        due("the last is otherwise", x.judge(0, 1), 5);
        due("a place below 0", x.judge(0, -1), 100);
        due("a place at the end", x.judge(0, 9), 100);
        due("a place far off", x.judge(0, Integer.MAX_VALUE), 100);
        x.tape(0, 0, 5);
        for (int n = 0; n < 5; n++) x.item(0, n, n < 3 ? 10 : 20);
        due("the row ends", x.judge(0, 0), 105);
        due("the row ends", x.judge(0, 4), 0);
        x.tape(1, 1, 9);
        due("shorts", x.judge(1, -1), -12);
        due("tape 6", x.judge(6, 0), -1);
        due("tape -1", x.judge(-1, 0), -1);
        PalmsAltered y = new PalmsAltered();
        y.tape(0, 4, 3);
        due("booleans, and no hands", y.judge(0, 0), -12);
    }

    private static void imaging() {
        promise = 29;
        PalmsAltered x = with(0, 6);
        due("image", x.image(), 2);
        x.hand(0, 0, 0);
        due("image again", x.image(), 3);
        x.set(2, 0, 7);
        x.undo();
        due("the newer image", x.of(2, 10), 0);
    }

    private static void undoing() {
        promise = 30;
        PalmsAltered x = with(0, 6);
        due("none", x.undo(), -3);
        build(x, "room 33");
        x.row(1, 1, 5);
        x.book(0, 0, 1);
        x.see(0, 0, 1, 1);
        x.fair(0, 1);
        x.shake(0, 1);
        x.pass(2);
        x.ink(77);
        x.image();
        for (int time = 0; time < 2; time++) {
            x.hand(6, 1, 1);
            x.row(2, 2, 8);
            x.set(0, 0, 9);
            x.row(1, 1, 6);
            x.book(0, 0, 2);
            x.see(-1, 0, 0, 0);
            x.see(1, 0, 1, 1);
            x.see(1, 0, 1, 1);
            x.fair(-1, 0);
            x.shake(0, 1);
            x.pass(5);
            x.ink(1);
            x.feed('r');
            x.tape(0, 0, 1);
            x.tape(0, 0, 2);
            x.act(1, 2, 1);
            build(x, "oom 44");
            due("undo", x.undo(), 2);
            due("hands", x.count(0), 2);
            due("length", x.of(0, 10), 28);
            due("shook", x.of(0, 2), 1);
            due("row", x.row(1, 1, 5), 5);
            due("day", x.told(0), 2);
            due("ink", x.told(3), 77);
            due("the booth that holds", x.told(1), 33);
            due("seen", x.count(2), 1);
            due("fair", x.count(3), 1);
            due("book", x.count(4), 1);
            due("booths stay", x.count(1), time + 2);
            due("the tape stays", x.item(0, 1, 1), 1);
            due("the trace stays", x.trace(0), 40);
            x.image();
        }
        due("a new hand", x.hand(6, 2, 3), 2);
        due("has a new row", x.row(2, 2, 0), 0);
        due("has not shaken", x.of(2, 2), 0);
        due("the newest holds again", build(x, "room 55"), 3);
        due("room", x.told(1), 55);
        x.feed('p');
        x.undo();
        due("the text stays", x.count(5), 1);
        PalmsAltered y = with(0, 0);
        y.image();
        build(y, "room 9");
        y.undo();
        due("no booth holds", y.told(1), 20);
        due("one is made", y.count(1), 1);
        y.book(0, 0, 5);
        y.image();
        y.book(-1, 0, 0);
        y.book(0, 0, 30);
        y.undo();
        due("what stood in the book", y.looked(), 0);
    }

    private static void acting() {
        promise = 31;
        PalmsAltered x = new PalmsAltered();
        for (int hand = 0; hand < 5; hand++) x.hand(hand, 3, 1);
        PalmsAltered y = new PalmsAltered();
        for (int hand = 0; hand < 3; hand++) y.hand(hand == 0 ? 0 : hand + 4, 5, 1);
        due("hand lies", x.act(0, 0, 7), 7);
        due("hand reads", x.act(0, 1, 7), 4);
        due("hand tells", x.act(0, 2, 7), 8);
        due("soft lies", x.act(1, 0, 7), 8);
        due("soft reads", x.act(1, 1, 7), 5 ^ 6);
        due("soft tells", x.act(1, 2, 7), 2 * (5 ^ 6));
        due("rough lies", x.act(2, 0, 7), 23);
        due("rough reads", x.act(2, 1, 7), 20);
        due("rough tells", x.act(2, 2, 7), 40);
        due("gloved lies", x.act(3, 0, 7), 10);
        due("gloved reads", x.act(3, 1, 7), 7);
        due("gloved tells", x.act(3, 2, 7), 14 + 1);
        due("milky lies", x.act(4, 0, 7), -11);
        due("milky reads", x.act(4, 1, 7), (-12 - 3) ^ 6);
        due("milky tells", x.act(4, 2, 7), 2 * ((-12 - 3) ^ 6));
        due("farmer lies", y.act(1, 0, 7), 22);
        due("farmer reads", y.act(1, 1, 7), 17);
        due("farmer tells", y.act(1, 2, 7), 2 * (19 - 5));
        due("told lies", y.act(2, 0, 7), 9 ^ 5);
        due("told reads", y.act(2, 1, 7), (9 ^ 5) - 5 + 4);
        due("told tells", y.act(2, 2, 7), 2 * ((9 ^ 5) - 5 + 4) + (3 ^ 5) - 5 + 4);
        due("wraps", x.act(3, 0, Integer.MAX_VALUE), Integer.MIN_VALUE + 2);
        due("act 3", x.act(0, 3, 7), 0);
        due("no trace then", x.count(6), 0);
        due("no trace then", x.trace(0), -1);
        x.act(0, 2, 7);
        due("act -1", x.act(0, -1, 7), 0);
        due("no trace then", x.count(6), 0);
        x.act(0, 2, 7);
        due("hand 5", x.act(5, 0, 7), 0);
        due("no trace then", x.count(6), 0);
    }

    private static void tracing() {
        promise = 32;
        PalmsAltered x = new PalmsAltered();
        for (int hand = 0; hand < 5; hand++) x.hand(hand < 3 ? hand + 1 : hand + 2, 4, 1);
        x.hand(0, 0, 0);
        int[][] bodies = {
            {12, 20, 11, 10}, {12, 11, 30, 10}, {40, 12, 11, 10, 11, 10}, {60, 12, 11, 30, 10},
            {40, 12, 70, 11, 71, 10, 10, 70, 11, 71, 10, 10}};
        for (int hand = 0; hand < 5; hand++) {
            x.act(hand, 2, 3);
            due("how many", x.count(6), bodies[hand].length);
            for (int n = 0; n < bodies[hand].length; n++) due("body " + n, x.trace(n), bodies[hand][n]);
            due("behind", x.trace(bodies[hand].length), -1);
            due("ahead", x.trace(-1), -1);
        }
        PalmsAltered y = with(4);
        y.act(0, 2, 3);
        int[] milky = {12, 51, 20, 11, 50, 10};
        for (int n = 0; n < 6; n++) due("milky " + n, y.trace(n), milky[n]);
        y.act(0, 0, 3);
        due("the latest", y.trace(0), 50);
        due("the latest's end", y.trace(2), -1);
    }

    private static void taking() {
        promise = 33;
        PalmsAltered x = with(4, 5, 6, 0, 3);
        int[][] fits = {{0, 1, 4}, {0, 2, 5}, {0, 3, 6}, {0}, {0, 3}};
        int[] kinds = {4, 5, 6, 0, 3};
        for (int hand = 0; hand < 5; hand++) {
            for (int k = 0; k < 7; k++) {
                boolean fit = false;
                for (int n : fits[hand]) fit |= n == k;
                due("kind " + kinds[hand] + " for " + k, x.taken(hand, k), fit ? kinds[hand] : -12);
            }
        }
        due("k 7", x.taken(9, 7), -2);
        due("k -1", x.taken(0, -1), -2);
        due("no hand", x.taken(5, 0), -11);
        due("no hand", x.taken(-1, 6), -11);
    }

    private static void counting() {
        promise = 34;
        PalmsAltered x = with(6, 0, 0);
        build(x, "room 1");
        build(x, "room 2");
        x.see(0, 0, 0, 0);
        x.fair(0, 1);
        x.fair(0, 1);
        x.fair(5, 1);
        for (int n = 0; n < 4; n++) x.book(0, 0, 0);
        for (int n = 0; n < 7; n++) x.feed(1);
        x.act(0, 2, 1);
        int[] counts = {3, 2, 1, 3, 4, 7, 12};
        for (int what = 0; what < 7; what++) due("count " + what, x.count(what), counts[what]);
        due("count 7", x.count(7), -2);
        due("count -1", x.count(-1), -2);
    }

    private static void taping() {
        promise = 35;
        PalmsAltered x = new PalmsAltered();
        for (int sort = 0; sort < 5; sort++) {
            due("tape", x.tape(sort, sort, 60), 1);
            due("its last item", x.read(sort, 59), 0);
            due("none behind", x.read(sort, 60), PalmsAltered.NO);
            x.item(sort, 7, 1);
            due("anew", x.tape(sort, sort, 60), 1);
            due("all 0", x.read(sort, 7), 0);
        }
        due("no items", x.tape(0, 0, 0), 1);
        due("no place", x.item(0, 0, 1), -13);
        due("nothing", x.tape(0, -1, -99), 1);
        due("nothing there", x.item(0, 0, 1), -11);
        due("tape 6", x.tape(6, 9, 99), -1);
        due("tape -1", x.tape(-1, 0, 0), -1);
        due("sort 5", x.tape(0, 5, -1), -2);
        due("sort -2", x.tape(0, -2, 0), -2);
        due("n 61", x.tape(0, 0, 61), -2);
        due("n -1", x.tape(0, 0, -1), -14);
        due("nothing changed", x.item(0, 0, 1), -11);
    }

    private static void items() {
        promise = 36;
        PalmsAltered x = new PalmsAltered();
        for (int sort = 0; sort < 5; sort++) x.tape(sort, sort, 2);
        long[] given = {0x123456789ABCDEF0L, -1, 0, 128, 32768, 1L << 31, 1L << 32, Long.MIN_VALUE};
        for (long v : given) {
            long[] kept = {(byte) v, (short) v, (int) v, v, v == 0 ? 0 : 1};
            for (int sort = 0; sort < 5; sort++) {
                due("item", x.item(sort, 1, v), 1);
                due("item of sort " + sort, x.read(sort, 1), kept[sort]);
                due("its neighbour", x.read(sort, 0), 0);
            }
        }
        due("tape", x.item(6, 0, 0), -1);
        due("tape -1", x.item(-1, 0, 0), -1);
        due("nothing", x.item(5, -1, 0), -11);
        due("place 2", x.item(0, 2, 0), -13);
        due("place -1", x.item(0, -1, 0), -13);
    }

    private static void reading() {
        promise = 37;
        PalmsAltered x = new PalmsAltered();
        x.tape(1, 3, 2);
        x.item(1, 0, -7);
        due("item", x.read(1, 0), -7);
        due("item", x.read(1, 1), 0);
        due("place 2", x.read(1, 2), Long.MIN_VALUE);
        due("place -1", x.read(1, -1), Long.MIN_VALUE);
        due("nothing", x.read(0, 0), Long.MIN_VALUE);
        due("tape 6", x.read(6, 0), Long.MIN_VALUE);
        due("tape -1", x.read(-1, 0), Long.MIN_VALUE);
        x.tape(1, -1, 2);
        due("nothing any more", x.read(1, 0), Long.MIN_VALUE);
    }

    private static void shifting() {
        promise = 38;
        PalmsAltered x = new PalmsAltered();
        x.tape(0, 2, 6);
        x.tape(1, 2, 3);
        x.tape(2, 1, 6);
        for (int n = 0; n < 6; n++) x.item(0, n, n + 1);
        due("to another", x.shift(0, 3, 1, 1, 2), 2);
        int[] other = {0, 4, 5};
        for (int n = 0; n < 3; n++) due("another", x.read(1, n), other[n]);
        due("on the same, upwards", x.shift(0, 0, 0, 2, 4), 4);
        int[] up = {1, 2, 1, 2, 3, 4};
        for (int n = 0; n < 6; n++) due("upwards", x.read(0, n), up[n]);
        due("on the same, downwards", x.shift(0, 2, 0, 1, 4), 4);
        int[] down = {1, 1, 2, 3, 4, 4};
        for (int n = 0; n < 6; n++) due("downwards", x.read(0, n), down[n]);
        due("none, at the ends", x.shift(0, 6, 1, 3, 0), 0);
        due("none, beyond the end", x.shift(0, 7, 1, 3, 0), -13);
        due("none, beyond the other's", x.shift(0, 6, 1, 4, 0), -13);
        due("beyond the end", x.shift(0, 4, 1, 0, 3), -13);
        due("beyond the other's", x.shift(0, 0, 1, 1, 3), -13);
        due("far off", x.shift(0, Integer.MAX_VALUE, 1, 0, 1), -13);
        due("many", x.shift(0, 1, 0, 0, Integer.MAX_VALUE), -13);
        due("n below 0", x.shift(0, 0, 1, 0, -1), -13);
        due("i below 0", x.shift(0, -1, 1, 0, 1), -13);
        due("j below 0", x.shift(0, 0, 1, -1, 1), -13);
        due("unlike sorts", x.shift(0, -1, 2, 0, 1), -12);
        due("nothing", x.shift(0, -1, 3, 0, 1), -11);
        due("nothing", x.shift(3, -1, 2, 0, 1), -11);
        due("tape", x.shift(6, 0, 3, 0, 1), -1);
        due("tape", x.shift(3, 0, -1, 0, 1), -1);
        due("nothing changed", x.read(0, 0), 1);
    }

    public static void main(String[] args) {
        newObject();
        hands();
        parts();
        setting();
        rows();
        inks();
        drawing();
        shaking();
        feeding();
        boothing();
        telling();
        passing();
        onDays();
        lasting();
        penning();
        sharing();
        meeting();
        booking();
        looking();
        shakenHands();
        seeing();
        wasSeen();
        couldBe();
        likely();
        means();
        fairs();
        ending();
        judging();
        imaging();
        undoing();
        acting();
        tracing();
        taking();
        counting();
        taping();
        items();
        reading();
        shifting();
        System.out.println(wrong == 0 ? "all promises hold" : wrong + " answers are not as due");
        if (wrong != 0) System.exit(1);
    }
}
