import java.util.ArrayList;
import java.util.List;

/**
 * What is refused and what is asked changes nothing: two objects go through the same calls, one of them through one
 * call more, and then all that can be seen of them is compared. None goes beyond its 512 calls.
 */
public final class UnchangedTest extends Sentences {
    private interface Call {
        long on(PalmsAltered x);
    }

    private record Named(String name, Call call, long answer) {
    }

    private static final String ANSWERED = "What is answered so changes nothing";
    private static final String ASKED = "what is asked changes nothing";

    // ---- how an object stands before the one call more

    /** Room for more of everything. */
    private static PalmsAltered roomy() {
        PalmsAltered x = new PalmsAltered();
        build(x, "bless 3 k=0;press 3");
        int[] kinds = {1, 2, 0, 6};
        for (int kind : kinds) x.hand(kind, 5, 20 + kind);
        lengths(x, 1, 4, 50, 9);
        for (int part = 0; part < 4; part++) x.row(3, part, part + 1);
        fill(x, 2, 2, 2);
        x.shake(0, 1);
        x.image();
        x.draw(1, 0, 3);
        x.pass(2);
        x.shake(1, 2);
        tapes(x);
        x.act(3, 2, 7);
        feed(x, "room 4");
        return x;
    }

    /** All is full. */
    private static PalmsAltered full() {
        PalmsAltered x = new PalmsAltered();
        for (int kind = 2; kind < 7; kind++) x.hand(kind, 5, 20 + kind);
        for (int n = 0; n < 6; n++) build(x, "room " + n);
        x.row(4, 1, 3);
        fill(x, 10, 8, 5);
        x.image();
        x.shake(0, 2);
        x.pass(1);
        tapes(x);
        x.act(4, 1, 7);
        feed(x, "r".repeat(100));
        return x;
    }

    /** The last day. */
    private static PalmsAltered late() {
        PalmsAltered x = with(1, 2, 0, 6);
        goTo(x, 9999);
        x.set(0, 0, 44);
        fill(x, 1, 1, 1);
        x.row(3, 3, 4);
        x.act(1, 2, 7);
        return x;
    }

    private static void fill(PalmsAltered x, int fair, int book, int seen) {
        for (int n = 0; n < fair; n++) x.fair(n % 2 == 0 ? 0 : 5, 1);
        for (int n = 0; n < book; n++) x.book(n % 4, n % 3, 3 * n);
        for (int n = 0; n < seen; n++) x.see(0, 0, x.of(0, 10), 0);
    }

    private static void tapes(PalmsAltered x) {
        for (int tape = 0; tape < 5; tape++) {
            x.tape(tape, tape, 3);
            for (int i = 0; i < 2; i++) x.item(tape, i + 1, 7 + i);
        }
    }

    // ---- what can be seen of it

    private static String seenOf(PalmsAltered x) {
        StringBuilder all = new StringBuilder();
        state(x, all);
        for (int i = 0; i < 13; i++) all.append(x.trace(i)).append(' ');
        for (int tape = 0; tape < 6; tape++) for (int i = 0; i < 4; i++) all.append(x.read(tape, i)).append(' ');
        all.append("| row ");
        for (int hand = 3; hand < 5; hand++) for (int part = 0; part < 4; part++) all.append(x.row(hand, part, 0)).append(' ');
        all.append("| next ").append(x.see(0, 0, 0, 0)).append(' ').append(x.fair(5, 0)).append(' ').append(x.book(0, 0, 0));
        all.append(' ').append(x.feed('1')).append(' ').append(x.booth()).append(' ').append(x.hand(0, 0, 0)).append(' ');
        all.append("| undo ").append(x.undo()).append(' ');
        state(x, all);
        return all.toString();
    }

    private static void state(PalmsAltered x, StringBuilder all) {
        int[] whats = {0, 1, 2, 3, 4, 10, 11, 12, 20};
        for (int hand = 0; hand < 5; hand++) {
            all.append("| hand ").append(hand).append(' ');
            for (int what : whats) all.append(x.of(hand, what)).append(' ');
        }
        all.append("| told ");
        for (int what = 0; what < 6; what++) all.append(x.told(what)).append(' ');
        all.append("| count ");
        for (int what = 0; what < 7; what++) all.append(x.count(what)).append(' ');
        all.append("| asked ").append(x.looked()).append(' ').append(x.ends(0)).append(' ').append(x.ends(1)).append(' ');
        all.append(x.was(0, 0, 0)).append(' ').append(x.was(0, 0, 1)).append(' ').append(x.was(2, 1, 0)).append(' ');
        all.append(x.on(7, 0)).append(' ').append(x.on(3, 29)).append(' ').append(x.can(1, 0)).append(' ');
    }

    // ---- comparing

    private static void unchangedBy(List<Named> calls, String which) {
        String due = seenOf(made(which));
        for (Named named : calls) {
            PalmsAltered x = made(which);
            due(named.name, named.call.on(x), named.answer);
            alike("how all is (" + which + ") behind " + named.name, seenOf(x), due);
        }
    }

    private static PalmsAltered made(String which) {
        switch (which) {
            case "roomy": return roomy();
            case "full": return full();
            case "late": return late();
            default: return with(0, 1, 2, 6);
        }
    }

    private static void add(List<Named> calls, String name, long answer, Call call) {
        calls.add(new Named(name, call, answer));
    }

    // ---- the tests

    @Of(promise = 0, says = ANSWERED)
    private static void refusedOfHandsAndBooths() {
        List<Named> calls = new ArrayList<>();
        add(calls, "hand(7, 0, 0)", NONE, x -> x.hand(7, 0, 0));
        add(calls, "hand(0, 10, 0)", BAD, x -> x.hand(0, 10, 0));
        add(calls, "hand(0, 0, 61)", BAD, x -> x.hand(0, 0, 61));
        add(calls, "of(4, 0)", -1001, x -> x.of(4, 0));
        add(calls, "of(0, 5)", -1001, x -> x.of(0, 5));
        add(calls, "set(4, 0, 1)", NONE, x -> x.set(4, 0, 1));
        add(calls, "set(0, 3, 1)", NONE, x -> x.set(0, 3, 1));
        add(calls, "set(0, 0, 61)", BAD, x -> x.set(0, 0, 61));
        add(calls, "set(0, 0, -1)", BAD, x -> x.set(0, 0, -1));
        add(calls, "row(4, 0, 1)", NONE, x -> x.row(4, 0, 1));
        add(calls, "row(3, 4, 1)", NONE, x -> x.row(3, 4, 1));
        add(calls, "row(3, -1, 1)", NONE, x -> x.row(3, -1, 1));
        add(calls, "row(3, 0, 10)", BAD, x -> x.row(3, 0, 10));
        add(calls, "row(2, 0, 9)", STATE, x -> x.row(2, 0, 9));
        add(calls, "ink(1000)", BAD, x -> x.ink(1000));
        add(calls, "ink(-1)", BAD, x -> x.ink(-1));
        add(calls, "draw(4, 0, 1)", NONE, x -> x.draw(4, 0, 1));
        add(calls, "draw(1, 3, 1)", NONE, x -> x.draw(1, 3, 1));
        add(calls, "draw(1, 0, 61)", BAD, x -> x.draw(1, 0, 61));
        add(calls, "draw(1, 0, -1)", BAD, x -> x.draw(1, 0, -1));
        add(calls, "shake(0, 4)", NONE, x -> x.shake(0, 4));
        add(calls, "shake(-1, 0)", NONE, x -> x.shake(-1, 0));
        add(calls, "shake(1, 1)", BAD, x -> x.shake(1, 1));
        add(calls, "feed(128)", BAD, x -> x.feed(128));
        add(calls, "feed(-1)", BAD, x -> x.feed(-1));
        add(calls, "told(6)", NONE, x -> x.told(6));
        add(calls, "pass(61)", BAD, x -> x.pass(61));
        add(calls, "pass(-1)", BAD, x -> x.pass(-1));
        unchangedBy(calls, "roomy");
    }

    @Of(promise = 0, says = ANSWERED)
    private static void refusedOfWhatIsToldByHand() {
        List<Named> calls = new ArrayList<>();
        add(calls, "book(4, 0, 1)", NONE, x -> x.book(4, 0, 1));
        add(calls, "book(-2, 0, 1)", NONE, x -> x.book(-2, 0, 1));
        add(calls, "book(0, 3, 1)", NONE, x -> x.book(0, 3, 1));
        add(calls, "book(0, 0, 61)", BAD, x -> x.book(0, 0, 61));
        add(calls, "see(4, 0, 1, 1)", NONE, x -> x.see(4, 0, 1, 1));
        add(calls, "see(-2, 0, 1, 1)", NONE, x -> x.see(-2, 0, 1, 1));
        add(calls, "see(0, 3, 1, 1)", NONE, x -> x.see(0, 3, 1, 1));
        add(calls, "see(0, 0, 61, 1)", BAD, x -> x.see(0, 0, 61, 1));
        add(calls, "see(0, 0, 1, 21)", BAD, x -> x.see(0, 0, 1, 21));
        add(calls, "fair(4, 0)", NONE, x -> x.fair(4, 0));
        add(calls, "fair(-2, 0)", NONE, x -> x.fair(-2, 0));
        add(calls, "fair(0, 5)", NONE, x -> x.fair(0, 5));
        add(calls, "fair(1, 1)", BAD, x -> x.fair(1, 1));
        add(calls, "count(7)", BAD, x -> x.count(7));
        add(calls, "trace(12)", NONE, x -> x.trace(12));
        unchangedBy(calls, "roomy");
    }

    @Of(promise = 0, says = ANSWERED)
    private static void refusedOfTapes() {
        List<Named> calls = new ArrayList<>();
        add(calls, "tape(6, 0, 1)", NONE, x -> x.tape(6, 0, 1));
        add(calls, "tape(0, 5, 1)", BAD, x -> x.tape(0, 5, 1));
        add(calls, "tape(0, 0, 61)", BAD, x -> x.tape(0, 0, 61));
        add(calls, "tape(0, 0, -1)", SIZE, x -> x.tape(0, 0, -1));
        add(calls, "item(6, 0, 9)", NONE, x -> x.item(6, 0, 9));
        add(calls, "item(5, 0, 9)", NOTHING, x -> x.item(5, 0, 9));
        add(calls, "item(0, 3, 9)", PLACE, x -> x.item(0, 3, 9));
        add(calls, "item(0, -1, 9)", PLACE, x -> x.item(0, -1, 9));
        add(calls, "read(5, 0)", NO, x -> x.read(5, 0));
        add(calls, "shift(0, 0, 6, 0, 1)", NONE, x -> x.shift(0, 0, 6, 0, 1));
        add(calls, "shift(0, 0, 5, 0, 1)", NOTHING, x -> x.shift(0, 0, 5, 0, 1));
        add(calls, "shift(5, 0, 0, 0, 1)", NOTHING, x -> x.shift(5, 0, 0, 0, 1));
        add(calls, "shift(0, 0, 1, 0, 1)", CAST, x -> x.shift(0, 0, 1, 0, 1));
        add(calls, "shift(0, 0, 0, 1, 3)", PLACE, x -> x.shift(0, 0, 0, 1, 3));
        add(calls, "shift(0, 2, 0, 0, 2)", PLACE, x -> x.shift(0, 2, 0, 0, 2));
        add(calls, "shift(0, 0, 0, 1, -1)", PLACE, x -> x.shift(0, 0, 0, 1, -1));
        add(calls, "judge(6, 0)", NONE, x -> x.judge(6, 0));
        add(calls, "judge(1, 0)", CAST, x -> x.judge(1, 0));
        add(calls, "taken(0, 7)", BAD, x -> x.taken(0, 7));
        add(calls, "taken(4, 0)", NOTHING, x -> x.taken(4, 0));
        add(calls, "taken(0, 2)", CAST, x -> x.taken(0, 2));
        unchangedBy(calls, "roomy");
    }

    @Of(promise = 0, says = ANSWERED)
    private static void refusedBecauseItIsFull() {
        List<Named> calls = new ArrayList<>();
        add(calls, "hand(0, 0, 0)", FULL, x -> x.hand(0, 0, 0));
        add(calls, "feed('1')", FULL, x -> x.feed('1'));
        add(calls, "feed(128)", BAD, x -> x.feed(128));
        add(calls, "booth()", FULL, x -> x.booth());
        add(calls, "book(0, 0, 1)", FULL, x -> x.book(0, 0, 1));
        add(calls, "see(0, 0, 1, 1)", FULL, x -> x.see(0, 0, 1, 1));
        add(calls, "fair(1, 2)", FULL, x -> x.fair(1, 2));
        add(calls, "fair(5, 0)", FULL, x -> x.fair(5, 0));
        unchangedBy(calls, "full");
    }

    @Of(promise = 0, says = ANSWERED)
    private static void refusedOnTheLastDayAndWithoutAnImage() {
        List<Named> late = new ArrayList<>();
        add(late, "pass(1)", STATE, x -> x.pass(1));
        add(late, "pass(60)", STATE, x -> x.pass(60));
        add(late, "pass(61)", BAD, x -> x.pass(61));
        unchangedBy(late, "late");
        List<Named> bare = new ArrayList<>();
        add(bare, "undo()", STATE, x -> x.undo());
        unchangedBy(bare, "bare");
    }

    @Of(promise = 0, says = ANSWERED)
    private static void refusedQuestions() {
        List<Named> calls = new ArrayList<>();
        add(calls, "on(61, 0)", BAD, x -> x.on(61, 0));
        add(calls, "on(1, 14)", NONE, x -> x.on(1, 14));
        add(calls, "lasts(4, 1)", NONE, x -> x.lasts(4, 1));
        add(calls, "lasts(0, 1000)", BAD, x -> x.lasts(0, 1000));
        add(calls, "pen(4, 1)", NONE, x -> x.pen(4, 1));
        add(calls, "pen(1, 10)", BAD, x -> x.pen(1, 10));
        add(calls, "share(4, 1, 0)", NONE, x -> x.share(4, 1, 0));
        add(calls, "share(1, 13, 0)", BAD, x -> x.share(1, 13, 0));
        add(calls, "shaken(3)", NONE, x -> x.shaken(3));
        add(calls, "was(0, 0, 2)", NONE, x -> x.was(0, 0, 2));
        add(calls, "can(0, 2)", NONE, x -> x.can(0, 2));
        add(calls, "odds(1000, 0)", NO, x -> x.odds(1000, 0));
        add(calls, "mean(61, 0)", NO, x -> x.mean(61, 0));
        add(calls, "ends(2)", NONE, x -> x.ends(2));
        unchangedBy(calls, "roomy");
    }

    @Of(promise = 0, says = ASKED)
    private static void askedOnceMore() {
        for (String which : new String[] {"roomy", "full", "late"}) {
            List<Named> calls = new ArrayList<>();
            PalmsAltered twin = made(which);
            for (Named named : questions()) add(calls, named.name, named.call.on(twin), named.call);
            unchangedBy(calls, which);
        }
    }

    private static List<Named> questions() {
        List<Named> calls = new ArrayList<>();
        for (int what : new int[] {0, 1, 2, 3, 4, 10, 21, 32}) add(calls, "of(1, " + what + ")", 0, x -> x.of(1, what));
        for (int what = 0; what < 6; what++) {
            int asked = what;
            add(calls, "told(" + what + ")", 0, x -> x.told(asked));
        }
        for (int what : new int[] {0, 11, 25}) add(calls, "on(60, " + what + ")", 0, x -> x.on(60, what));
        add(calls, "lasts(0, 1)", 0, x -> x.lasts(0, 1));
        add(calls, "pen(1, 9)", 0, x -> x.pen(1, 9));
        for (int k = -1; k < 3; k++) {
            int asked = k;
            add(calls, "share(1, 12, " + k + ")", 0, x -> x.share(1, 12, asked));
            add(calls, "shaken(" + k + ")", 0, x -> x.shaken(asked));
        }
        add(calls, "meet()", 0, x -> x.meet());
        add(calls, "looked()", 0, x -> x.looked());
        for (int part = 0; part < 2; part++) {
            int asked = part;
            add(calls, "was(0, 0, " + part + ")", 0, x -> x.was(0, 0, asked));
            add(calls, "can(1, " + part + ")", 0, x -> x.can(1, asked));
            add(calls, "odds(99, " + part + ")", 0, x -> x.odds(99, asked));
            add(calls, "mean(60, " + part + ")", 0, x -> x.mean(60, asked));
            add(calls, "ends(" + part + ")", 0, x -> x.ends(asked));
        }
        add(calls, "judge(0, 0)", 0, x -> x.judge(0, 0));
        add(calls, "judge(5, -1)", 0, x -> x.judge(5, -1));
        add(calls, "trace(0)", 0, x -> x.trace(0));
        add(calls, "taken(3, 0)", 0, x -> x.taken(3, 0));
        add(calls, "count(6)", 0, x -> x.count(6));
        add(calls, "read(0, 1)", 0, x -> x.read(0, 1));
        return calls;
    }

    @Of(promise = 10, says = "THE TEXT, which is empty then")
    private static void aFaultChangesTheTextAlone() {
        PalmsAltered x = roomy();
        x.feed('x');
        due("booth()", x.booth(), -16);
        PalmsAltered twin = roomy();
        twin.feed(';');
        due("booth()", twin.booth(), -17);
        String seen = seenOf(x);
        alike("how all is behind one fault and another", seen, seenOf(twin));
        PalmsAltered y = new PalmsAltered();
        build(y, "room 44;x");
        alike("how a new one is behind a fault", seenOf(y), seenOf(new PalmsAltered()));
    }

    @Of(promise = 31, says = "0, and no TRACE then")
    private static void actsChangeTheTraceAlone() {
        PalmsAltered twin = roomy();
        twin.act(-1, 0, 0);
        String due = seenOf(twin);
        for (int hand = 0; hand < 5; hand++) {
            for (int act = -1; act < 4; act++) {
                PalmsAltered x = roomy();
                x.act(hand, act, 12345);
                x.act(0, 3, 7);
                alike("how all is behind act " + act + " of hand " + hand, seenOf(x), due);
            }
        }
    }

    @Of(promise = 29, says = "THE IMAGE is taken")
    private static void anImageChangesNothingThatIsSeen() {
        PalmsAltered x = late();
        x.image();
        PalmsAltered twin = late();
        StringBuilder got = new StringBuilder();
        StringBuilder due = new StringBuilder();
        state(x, got);
        state(twin, due);
        alike("how all is behind an image", got.toString(), due.toString());
        x.undo();
        got.setLength(0);
        state(x, got);
        alike("how all is behind an undo at once", got.toString(), due.toString());
    }

    public static void main(String[] args) throws Exception {
        Sentences.run(UnchangedTest.class);
    }
}
