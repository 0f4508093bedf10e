import com.sun.management.ThreadMXBean;
import java.lang.management.ManagementFactory;
import java.util.function.Consumer;

/**
 * The room that a run takes: an object makes its rows when it is made, and no call but booth() makes anything more.
 * What is counted are the bytes that this thread has taken, by the Java machine's own account.
 */
public final class RoomTest {
    private static final int CALLS = 512;
    private static final long MOST_FOR_AN_OBJECT = 12_000;
    private static final long MOST_FOR_A_BOOTH = 1_200;
    /** The account itself takes a little now and then. */
    private static final long NOTHING = 400;

    private static final ThreadMXBean ACCOUNT = (ThreadMXBean) ManagementFactory.getThreadMXBean();
    private static int wrong = 0;

    private static long taken() {
        return ACCOUNT.getThreadAllocatedBytes(Thread.currentThread().getId());
    }

    private static void within(String what, long most, Runnable calls) {
        calls.run();
        long before = taken();
        calls.run();
        long bytes = taken() - before;
        if (bytes > most) {
            wrong++;
            System.out.println(what + " took " + bytes + " bytes, at most " + most + " are due");
        }
    }

    private static void feed(PalmsAltered x, String text) {
        for (int n = 0; n < text.length(); n++) x.feed(text.charAt(n));
    }

    /** Five hands, all that can be told by hand, and a text that takes long to answer. */
    private static PalmsAltered full() {
        PalmsAltered x = new PalmsAltered();
        int[] kinds = {0, 1, 6, 5, 2};
        for (int hand = 0; hand < kinds.length; hand++) x.hand(kinds[hand], 3, 7 + 12 * hand);
        feed(x, "bless 3 ((((x>9))))|!(l=0&d<5);blight 2 h=1|k=2&v>1|x<40;press 2;room 60");
        x.booth();
        for (int n = 0; n < 8; n++) x.book(0, 0, 60);
        for (int n = 0; n < 5; n++) x.see(n, n % 3, 1, 20);
        for (int n = 0; n < 10; n++) x.fair(n % 2 == 0 ? 5 : 0, 1);
        for (int tape = 0; tape < 6; tape++) x.tape(tape, 0, 60);
        x.image();
        return x;
    }

    private static void calls(String what, Consumer<PalmsAltered> call) {
        PalmsAltered x = full();
        within(what + ", " + CALLS + " times,", NOTHING, () -> {
            for (int n = 0; n < CALLS; n++) call.accept(x);
        });
    }

    private static void changes() {
        calls("hand", x -> x.hand(0, 0, 0));
        calls("of", x -> x.of(0, 3));
        calls("set", x -> x.set(0, 0, 9));
        calls("row", x -> x.row(2, 0, 9));
        calls("ink", x -> x.ink(99));
        calls("draw", x -> x.draw(0, 0, 9));
        calls("shake", x -> x.shake(0, 1));
        calls("feed", x -> x.feed(33));
        calls("booth with a fault", x -> {
            x.feed(33);
            x.booth();
        });
        calls("told", x -> x.told(4));
        calls("pass", x -> x.pass(60));
    }

    private static void asked() {
        calls("on", x -> x.on(60, 0));
        calls("lasts", x -> x.lasts(2, 0));
        calls("pen", x -> x.pen(0, 9));
        calls("share", x -> x.share(0, 12, -1));
        calls("meet", PalmsAltered::meet);
        calls("book", x -> {
            x.book(-1, 0, 0);
            x.book(0, 0, 60);
        });
        calls("looked", PalmsAltered::looked);
        calls("shaken", x -> x.shaken(2));
        calls("see", x -> {
            x.see(-1, 0, 0, 0);
            x.see(0, 0, 0, 20);
        });
        calls("was", x -> x.was(0, 0, 0));
        calls("can", x -> x.can(3, 0));
        calls("odds", x -> x.odds(500, 0));
        calls("mean", x -> x.mean(60, 0));
        calls("fair", x -> {
            x.fair(-1, 0);
            x.fair(0, 1);
        });
        calls("ends", x -> x.ends(0));
    }

    private static void host() {
        calls("judge", x -> x.judge(0, 0));
        calls("image", PalmsAltered::image);
        calls("undo", PalmsAltered::undo);
        calls("act", x -> x.act(2, 2, 9));
        calls("trace", x -> x.trace(0));
        calls("taken", x -> x.taken(2, 0));
        calls("count", x -> x.count(0));
        calls("tape", x -> x.tape(0, 3, 60));
        calls("item", x -> x.item(0, 0, 9));
        calls("read", x -> x.read(0, 0));
        calls("shift", x -> x.shift(0, 0, 1, 0, 60));
    }

    public static void main(String[] args) {
        within("an object", MOST_FOR_AN_OBJECT, PalmsAltered::new);
        PalmsAltered x = new PalmsAltered();
        within("a booth of 100 bytes", MOST_FOR_A_BOOTH, () -> {
            feed(x, "bless 11 " + "h=9|".repeat(22) + "h=0");
            x.booth();
        });
        changes();
        asked();
        host();
        System.out.println(wrong == 0 ? "no call takes room that it need not" : wrong + " calls take too much room");
        if (wrong != 0) System.exit(1);
    }
}
