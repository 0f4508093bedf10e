import java.nio.file.Files;
import java.nio.file.Path;
import java.util.ArrayDeque;
import java.util.ArrayList;
import java.util.Deque;
import java.util.List;
import java.util.Map;
import java.util.Set;
import java.util.TreeMap;
import java.util.TreeSet;
import java.util.regex.Matcher;
import java.util.regex.Pattern;

/**
 * LANGUAGE.md's rules 8 and 11, read off the source: which methods call themselves by way of others, and that all else
 * goes at most eight calls deep. Methods of one name in several classes are taken for one, so that nothing is missed.
 */
public final class DepthTest {
    private static final int DEEPEST = 8;
    /** Each of these carries its depth as an argument, or calls one that does. */
    private static final Set<String> MAY_RECUR = Set.of("isSoAfter", "isEither", "isBoth", "isOne", "own", "above", "run");
    private static final Pattern HEAD = Pattern.compile(
        "(?m)^ {4,8}(?:(?:public|private|static|final) )*(?:[\\w\\[\\]]+ )?(\\w+)\\([^;{]*\\) \\{$");

    private static final Map<String, Set<String>> CALLS = new TreeMap<>();
    private static int wrong = 0;

    private static void say(String what) {
        wrong++;
        System.out.println(what);
    }

    private static String bare(String source) {
        String bare = source.replaceAll("(?s)/\\*.*?\\*/", "").replaceAll("//[^\n]*", "");
        return bare.replaceAll("\"[^\"\n]*\"", "\"\"").replaceAll("'(?:\\\\.|[^'\\\\])'", "' '");
    }

    private static String bodyFrom(String source, int open) {
        int depth = 0;
        for (int at = open; at < source.length(); at++) {
            if (source.charAt(at) == '{') depth++;
            if (source.charAt(at) == '}') depth--;
            if (depth == 0) return source.substring(open, at);
        }
        return source.substring(open);
    }

    private static void read(String source) {
        Map<String, StringBuilder> bodies = new TreeMap<>();
        Matcher head = HEAD.matcher(source);
        while (head.find()) {
            bodies.computeIfAbsent(head.group(1), name -> new StringBuilder()).append(bodyFrom(source, head.end() - 1));
        }
        for (String name : bodies.keySet()) {
            Set<String> called = new TreeSet<>();
            Matcher call = Pattern.compile("(?<!Math\\.)(?<!Arrays\\.)\\b(\\w+)\\(").matcher(bodies.get(name));
            while (call.find()) if (bodies.containsKey(call.group(1))) called.add(call.group(1));
            CALLS.put(name, called);
        }
    }

    private static boolean reaches(String from, String to) {
        Set<String> met = new TreeSet<>();
        Deque<String> next = new ArrayDeque<>(CALLS.get(from));
        while (!next.isEmpty()) {
            String name = next.pop();
            if (name.equals(to)) return true;
            if (met.add(name)) next.addAll(CALLS.get(name));
        }
        return false;
    }

    /** The longest row of calls from here on; what calls itself is met once in a row. */
    private static List<String> longest(String from, List<String> above) {
        List<String> row = new ArrayList<>(above);
        row.add(from);
        List<String> longest = row;
        for (String name : CALLS.get(from)) {
            if (row.contains(name)) continue;
            List<String> longer = longest(name, row);
            if (longer.size() > longest.size()) longest = longer;
        }
        return longest;
    }

    public static void main(String[] args) throws Exception {
        read(bare(Files.readString(Path.of("src/main/java/PalmsAltered.java"))));
        if (!CALLS.containsKey("meet") || !CALLS.get("meet").contains("ifShaken")) say("the source was not read");
        int deepest = 0;
        for (String name : CALLS.keySet()) {
            if (reaches(name, name) && !MAY_RECUR.contains(name)) say(name + " calls itself");
            List<String> row = longest(name, List.of());
            deepest = Math.max(deepest, row.size());
            if (row.size() > DEEPEST) say("too deep: " + row);
        }
        System.out.println(wrong == 0 ? "no row of calls is deeper than " + deepest : wrong + " rules are broken");
        if (wrong != 0) System.exit(1);
    }
}
