import java.io.ByteArrayOutputStream;
import java.io.PrintStream;
import java.net.URL;
import java.net.URLClassLoader;
import java.nio.file.Files;
import java.nio.file.Path;
import java.util.Comparator;
import java.util.List;
import java.util.regex.Matcher;
import java.util.regex.Pattern;
import java.util.stream.Collectors;
import java.util.stream.Stream;
import javax.tools.ToolProvider;

/** README.md's example compiles and prints what README.md says, and README.md names every call and every test. */
public final class ReadmeTest {
    private static int wrong = 0;

    private static void hold(boolean so, String what) {
        if (!so) {
            wrong++;
            System.out.println(what);
        }
    }

    private static String block(String readme, String language) {
        Matcher matcher = Pattern.compile("(?s)```" + language + "\n(.*?)```").matcher(readme);
        boolean found = matcher.find();
        hold(found, "README.md has no block of " + language);
        return found ? matcher.group(1) : "";
    }

    private static String printedBy(String example, Path room) throws Exception {
        Path file = room.resolve("Example.java");
        Files.writeString(file, example);
        int fault = ToolProvider.getSystemJavaCompiler().run(null, null, null,
            "-cp", System.getProperty("java.class.path"), "-d", room.toString(), file.toString());
        if (fault != 0) return "it does not compile";
        PrintStream usual = System.out;
        ByteArrayOutputStream printed = new ByteArrayOutputStream();
        try (URLClassLoader loader = new URLClassLoader(new URL[] {room.toUri().toURL()})) {
            System.setOut(new PrintStream(printed, true));
            loader.loadClass("Example").getMethod("main", String[].class).invoke(null, (Object) new String[0]);
        } finally {
            System.setOut(usual);
        }
        return printed.toString().replace("\r", "");
    }

    private static void example(String readme) throws Exception {
        Path room = Files.createTempDirectory("readme");
        try {
            String printed = printedBy(block(readme, "java"), room);
            hold(printed.equals(block(readme, "text")), "the example of README.md prints\n" + printed);
        } finally {
            try (Stream<Path> files = Files.walk(room)) {
                for (Path file : files.sorted(Comparator.reverseOrder()).collect(Collectors.toList())) Files.delete(file);
            }
        }
    }

    private static List<String> tests() throws Exception {
        try (Stream<Path> files = Files.list(Path.of("src/test/java"))) {
            return files.map(file -> file.getFileName().toString().replace(".java", "")).sorted().collect(Collectors.toList());
        }
    }

    public static void main(String[] args) throws Exception {
        String readme = Files.readString(Path.of("README.md"));
        example(readme);
        for (String test : tests()) hold(readme.contains("`" + test + "`"), "README.md does not tell of " + test);
        Matcher face = Pattern.compile("public (?:int|long) (\\w+)\\(").matcher(Files.readString(Path.of("../shared/DOC.md")));
        while (face.find()) hold(readme.contains("`" + face.group(1) + "`"), "README.md does not tell of " + face.group(1));
        hold(readme.contains("    .ci/run\n"), "README.md does not say how to run the tests");
        System.out.println(wrong == 0 ? "README.md holds" : wrong + " lines of README.md do not hold");
        if (wrong != 0) System.exit(1);
    }
}
