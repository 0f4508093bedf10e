import java.util.Random;

/** No call throws or changes what it only asks for, whatever its numbers are and however long the run. */
public final class WildTest {
    private static final int[] WILD = {Integer.MIN_VALUE, Integer.MIN_VALUE + 1, -1001, -11, -2, -1, 0, 1, 2, 3, 4, 5, 6,
        7, 8, 9, 10, 11, 12, 20, 21, 34, 35, 59, 60, 61, 99, 100, 127, 128, 999, 1000, 9999, Integer.MAX_VALUE - 1,
        Integer.MAX_VALUE};
    private static final int CALLS = 37;

    private static final Random RANDOM = new Random(77);

    private static int wild() {
        return RANDOM.nextInt(3) == 0 ? WILD[RANDOM.nextInt(WILD.length)] : RANDOM.nextInt(7);
    }

    private static long call(PalmsAltered x, int call) {
        int a = wild(), b = wild(), c = wild(), d = wild(), e = wild();
        switch (call) {
            case 0: return x.of(a, b);
            case 1: return x.told(a);
            case 2: return x.on(a, b);
            case 3: return x.lasts(a, b);
            case 4: return x.pen(a, b);
            case 5: return x.share(a, b, c);
            case 6: return x.meet();
            case 7: return x.looked();
            case 8: return x.shaken(a);
            case 9: return x.was(a, b, c);
            case 10: return x.can(a, b);
            case 11: return x.odds(a, b);
            case 12: return x.mean(a, b);
            case 13: return x.ends(a);
            case 14: return x.judge(a, b);
            case 15: return x.trace(a);
            case 16: return x.taken(a, b);
            case 17: return x.count(a);
            case 18: return x.read(a, b);
            case 19: return x.image();
            case 20: return x.hand(a, b, c);
            case 21: return x.set(a, b, c);
            case 22: return x.row(a, b, c);
            case 23: return x.ink(a);
            case 24: return x.draw(a, b, c);
            case 25: return x.shake(a, b);
            case 26: return x.feed(a);
            case 27: return x.pass(a);
            case 28: return x.book(a, b, c);
            case 29: return x.see(a, b, c, d);
            case 30: return x.fair(a, b);
            case 31: return x.tape(a, b, c);
            case 32: return x.item(a, b, c);
            case 33: return x.shift(a, b, c, d, e);
            case 34: return x.undo();
            case 35: return x.act(a, b, c);
            default: return booth(x);
        }
    }

    private static final String SIGNS = "hlkvxd<=>0123456789()!&|; ";

    private static long booth(PalmsAltered x) {
        StringBuilder text = new StringBuilder("bless 7 h=0");
        for (int n = RANDOM.nextInt(60); n > 0; n--) text.append(SIGNS.charAt(RANDOM.nextInt(SIGNS.length())));
        if (RANDOM.nextBoolean()) text.setLength(RANDOM.nextInt(12));
        for (int n = 0; n < text.length(); n++) x.feed(text.charAt(n));
        return x.booth();
    }

    /** Whatever can be read of an object without a change. */
    private static String all(PalmsAltered x) {
        StringBuilder all = new StringBuilder();
        for (int hand = 0; hand < 5; hand++) {
            for (int what = 0; what < 33; what++) all.append(x.of(hand, what)).append(',');
            for (int line = 0; line < 3; line++) all.append(x.was(hand, line, 0)).append(',').append(x.was(hand, line, 1)).append(',');
            all.append(x.on(4, 10 + hand)).append(',');
        }
        for (int n = 0; n < 8; n++) all.append(x.told(n)).append(',').append(x.count(n)).append(',');
        for (int n = 0; n < 20; n++) all.append(x.trace(n)).append(',');
        for (int tape = 0; tape < 6; tape++) for (int n = 0; n < 61; n++) all.append(x.read(tape, n)).append(',');
        return all.append(x.ends(0)).append(',').append(x.ends(1)).append(',').append(x.looked()).toString();
    }

    public static void main(String[] args) {
        int wrong = 0;
        for (int run = 0; run < 60 && wrong < 10; run++) {
            PalmsAltered x = new PalmsAltered();
            int hands = RANDOM.nextInt(6);
            for (int n = 0; n < hands; n++) x.hand(RANDOM.nextInt(7), RANDOM.nextInt(10), RANDOM.nextInt(61));
            String before = all(x);
            for (int n = 0; n < 1500; n++) {
                int call = RANDOM.nextInt(CALLS);
                long answer = call(x, call);
                String after = all(x);
                boolean asked = call < 20;
                boolean refused = call < 35 && call != 27 && call != 23 && answer < 0 && answer != PalmsAltered.NO;
                if ((asked || refused) && !after.equals(before)) {
                    wrong++;
                    System.out.println("run " + run + ": call " + call + " answered " + answer + " and changed something");
                }
                before = after;
            }
        }
        System.out.println(wrong == 0 ? "nothing threw, nothing changed unasked" : wrong + " calls changed what they ask for");
        if (wrong != 0) System.exit(1);
    }
}
