import java.lang.reflect.Method;
import java.util.Map;
import java.util.TreeMap;
import java.util.regex.Matcher;
import java.util.regex.Pattern;

/** Every word of DOC.md that names a boundary stands in a sentence that some test speaks of, and no test misquotes it. */
public final class CoverageTest {
    private static final Class<?>[] TESTS = {
        HandsBoundaryTest.class, AskedBoundaryTest.class, HostBoundaryTest.class, UnchangedTest.class};

    /** What a promise names its boundaries by. */
    private static final Pattern OF_PROMISES = Pattern.compile(
        "\\b(NONE|BAD|STATE|FULL|NOTHING|CAST|PLACE|SIZE|NO|No)\\b|-\\d+|\\d+ \\.\\. \\d+|\\b(empty|whatever|stays|above \\d+|below 0"
        + "|beyond|not looked at|does not matter|modulo|lowest|holds nothing|all 0|one is both|fewer|kept|as they all were)\\b");

    /** What the Terms name theirs by. */
    private static final Pattern OF_TERMS = Pattern.compile(
        "\\d+ \\.\\. \\d+|-\\d+|\\b(at most|at least|at first|without|if more|if less|cut|modulo|none|below 0|beyond|too early"
        + "|of several|the first|the least|the fewest|lowest|wrapping|if LENGTH is 0|is odd|changes nothing|are kept|digits|1 to 10"
        + "|not by then|if greater|q or more|as there is INK|FULL|BAD|STATE|NONE|that long or longer|nothing is printed"
        + "|fewer|no such|holds nothing|nothing is there|another sort|the row ends|newest|nothing)\\b|\\bNO\\b");

    private static int wrong = 0;

    private static void say(String what) {
        wrong++;
        System.out.println(what);
    }

    private static void mark(Method test, Map<Integer, String> doc, Map<Integer, boolean[]> spoken) {
        Sentences.Of of = test.getAnnotation(Sentences.Of.class);
        boolean found = false;
        for (int part : new int[] {of.promise(), 0}) {
            String text = doc.getOrDefault(part, "");
            int at = text.indexOf(of.says());
            if (at >= 0 && !found) {
                found = true;
                if (text.indexOf(of.says(), at + 1) >= 0) say(test + " quotes what stands twice: " + of.says());
                for (int n = 0; n < of.says().length(); n++) spoken.get(part)[at + n] = true;
            }
        }
        if (!found) say(test + " quotes what does not stand in DOC.md: " + of.says());
    }

    private static void unspoken(int part, String text, boolean[] spoken, Pattern boundaries) {
        Matcher matcher = boundaries.matcher(text);
        while (matcher.find()) {
            boolean all = true;
            for (int n = matcher.start(); n < matcher.end(); n++) all &= spoken[n];
            if (!all) {
                String about = text.substring(Math.max(0, matcher.start() - 40), Math.min(text.length(), matcher.end() + 40));
                say((part == 0 ? "Terms" : "promise " + part) + ": no test speaks of '" + matcher.group() + "' in ..." + about + "...");
            }
        }
    }

    public static void main(String[] args) throws Exception {
        Map<Integer, String> doc = Sentences.document();
        Map<Integer, boolean[]> spoken = new TreeMap<>();
        for (int part : doc.keySet()) spoken.put(part, new boolean[doc.get(part).length()]);
        int many = 0;
        for (Class<?> tests : TESTS) {
            for (Method test : Sentences.testsOf(tests)) {
                mark(test, doc, spoken);
                many++;
            }
        }
        for (int part : doc.keySet()) unspoken(part, doc.get(part), spoken.get(part), part == 0 ? OF_TERMS : OF_PROMISES);
        if (doc.size() != 39) say("DOC.md has " + doc.size() + " parts");
        System.out.println(wrong == 0 ? many + " tests speak of each boundary that is named" : wrong + " boundaries want a test");
        if (wrong != 0) System.exit(1);
    }
}
