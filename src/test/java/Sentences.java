import java.io.IOException;
import java.lang.annotation.ElementType;
import java.lang.annotation.Retention;
import java.lang.annotation.RetentionPolicy;
import java.lang.annotation.Target;
import java.lang.reflect.InvocationTargetException;
import java.lang.reflect.Method;
import java.nio.file.Files;
import java.nio.file.Path;
import java.util.ArrayList;
import java.util.List;
import java.util.Map;
import java.util.TreeMap;
import java.util.regex.Matcher;
import java.util.regex.Pattern;

/** Runs tests that each speak of one sentence of DOC.md, and what such tests have in common. */
class Sentences {
    /** Which sentence a test speaks of: its words as they stand in DOC.md, in that promise or in the Terms behind it. */
    @Retention(RetentionPolicy.RUNTIME)
    @Target(ElementType.METHOD)
    @interface Of {
        int promise();

        String says();
    }

    static final int NONE = -1, BAD = -2, STATE = -3, FULL = -4, NOT_FOUND = -5;
    static final int NOTHING = -11, CAST = -12, PLACE = -13, SIZE = -14;
    static final long NO = Long.MIN_VALUE;
    static final int MIN = Integer.MIN_VALUE, MAX = Integer.MAX_VALUE;

    private static String speaking = "";
    private static int wrong = 0;

    Sentences() {
    }

    // ---- running

    static void run(Class<?> tests) throws Exception {
        int many = 0;
        for (Method test : testsOf(tests)) {
            Of of = test.getAnnotation(Of.class);
            speaking = "promise " + of.promise() + ", \"" + of.says() + "\" (" + test.getName() + ")";
            test.setAccessible(true);
            try {
                test.invoke(null);
            } catch (InvocationTargetException thrown) {
                say("threw " + thrown.getCause());
            }
            many++;
        }
        System.out.println(wrong == 0 ? "all " + many + " sentences hold" : wrong + " answers are not as due");
        if (wrong != 0) System.exit(1);
    }

    static List<Method> testsOf(Class<?> tests) {
        List<Method> all = new ArrayList<>();
        for (Method method : tests.getDeclaredMethods()) if (method.isAnnotationPresent(Of.class)) all.add(method);
        all.sort((one, other) -> one.getName().compareTo(other.getName()));
        return all;
    }

    private static void say(String what) {
        wrong++;
        System.out.println(speaking + ": " + what);
    }

    static void due(String call, long got, long want) {
        if (got != want) say(call + " answered " + got + ", due is " + want);
    }

    static void alike(String what, String got, String want) {
        if (!got.equals(want)) say(what + "\n    is " + got + "\n   due " + want);
    }

    // ---- what the tests begin with

    /** Hands of these kinds, with v 5 and lines of 30. */
    static PalmsAltered with(int... kinds) {
        PalmsAltered x = new PalmsAltered();
        for (int kind : kinds) x.hand(kind, 5, 30);
        return x;
    }

    /** One hand. */
    static PalmsAltered one(int kind, int v, int length) {
        PalmsAltered x = new PalmsAltered();
        x.hand(kind, v, length);
        return x;
    }

    static void lengths(PalmsAltered x, int hand, int first, int second, int third) {
        x.set(hand, 0, first);
        x.set(hand, 1, second);
        x.set(hand, 2, third);
    }

    static void feed(PalmsAltered x, String text) {
        for (int n = 0; n < text.length(); n++) x.feed(text.charAt(n));
    }

    static int build(PalmsAltered x, String text) {
        feed(x, text);
        return x.booth();
    }

    /** Goes on to a day far off by as few calls as it takes. */
    static void goTo(PalmsAltered x, int day) {
        int at = x.told(0);
        for (int n = 0; n < 200 && at >= 0 && at < day; n++) at = x.pass(Math.min(60, day - at));
        due("day", at, day);
    }

    // ---- the document

    /** The document's parts: 0 is all ahead of the promises, the others are the promises by their numbers. */
    static Map<Integer, String> document() throws IOException {
        String doc = Files.readString(Path.of("../shared/DOC.md")).replaceAll("\\s+", " ");
        Map<Integer, String> parts = new TreeMap<>();
        Matcher heading = Pattern.compile("## (Promise (\\d+)|Not promised)").matcher(doc);
        int part = 0;
        int start = 0;
        while (heading.find()) {
            parts.put(part, doc.substring(start, heading.start()));
            part = heading.group(2) == null ? -1 : Integer.parseInt(heading.group(2));
            start = heading.end();
        }
        return parts;
    }
}
