import java.lang.reflect.Constructor;
import java.lang.reflect.Field;
import java.lang.reflect.Method;
import java.lang.reflect.Modifier;
import java.nio.file.Files;
import java.nio.file.Path;
import java.util.ArrayList;
import java.util.List;
import java.util.Set;
import java.util.TreeSet;
import java.util.regex.Matcher;
import java.util.regex.Pattern;

/** What of LANGUAGE.md can be seen from the source and from the compiled class; the face is read from DOC.md. */
public final class LanguageTest {
    private static int wrong = 0;

    private static void hold(boolean so, String what) {
        if (!so) {
            wrong++;
            System.out.println(what);
        }
    }

    /** The source without its comments and with empty texts. */
    private static String bare(String source) {
        String bare = source.replaceAll("(?s)/\\*.*?\\*/", "").replaceAll("//[^\n]*", "");
        return bare.replaceAll("\"[^\"\n]*\"", "\"\"").replaceAll("'(?:\\\\.|[^'\\\\])'", "' '");
    }

    private static void words(String bare) {
        String[] forbidden = {"throw", "throws", "try", "catch", "synchronized", "assert", "enum", "Object", "System\\.(?!arraycopy)",
            "->", "::", "\\w+Exact", "volatile", "protected", "static\\s*\\{", "while\\s*\\(\\s*true", "for\\s*\\(\\s*;\\s*;",
            "\"\"\\s*\\+", "\\+\\s*\"\"", "\\.\\.\\.", "@\\w+"};
        for (String word : forbidden) {
            String pattern = Character.isLetter(word.charAt(0)) ? "\\b" + word + (word.endsWith(")") ? "" : "\\b") : word;
            hold(!Pattern.compile(pattern).matcher(bare).find(), "the source has " + word);
        }
        Set<String> imports = new TreeSet<>();
        Matcher matcher = Pattern.compile("import ([\\w.*]+);").matcher(bare);
        while (matcher.find()) imports.add(matcher.group(1));
        imports.removeAll(List.of("java.util.Arrays", "java.util.ArrayList", "java.util.List", "java.util.Iterator"));
        hold(imports.isEmpty(), "imports " + imports);
        hold(!bare.contains("package "), "it has a package line");
    }

    private static void ascii(String source) {
        for (int n = 0; n < source.length(); n++) hold(source.charAt(n) < 128, "a sign above 127 at " + n);
    }

    private static void methodLengths(String source) {
        String[] lines = source.split("\n");
        int start = -1;
        String indent = "";
        for (int n = 0; n < lines.length; n++) {
            Matcher matcher = Pattern.compile("^( {4}| {8})(?!static final class|private static final class)[\\w].*\\) \\{$").matcher(lines[n]);
            if (start < 0 && matcher.find()) {
                start = n;
                indent = matcher.group(1);
            } else if (start >= 0 && lines[n].equals(indent + "}")) {
                hold(n - start < 60, "a method of " + (n - start + 1) + " lines from line " + (start + 1) + " on");
                start = -1;
            }
        }
    }

    private static void face(String doc) {
        Set<String> due = new TreeSet<>();
        Matcher matcher = Pattern.compile("public (int|long) (\\w+)\\(([^)]*)\\);").matcher(doc);
        while (matcher.find()) {
            List<String> types = new ArrayList<>();
            for (String part : matcher.group(3).trim().split(",\\s*")) if (!part.isEmpty()) types.add(part.split(" ")[0]);
            due.add(matcher.group(1) + " " + matcher.group(2) + types);
        }
        hold(due.size() == 37, "DOC.md tells " + due.size() + " methods");
        Set<String> got = new TreeSet<>();
        Set<String> names = new TreeSet<>();
        for (Method method : PalmsAltered.class.getDeclaredMethods()) {
            if (!Modifier.isPublic(method.getModifiers())) continue;
            List<String> types = new ArrayList<>();
            for (Class<?> type : method.getParameterTypes()) types.add(type.getName());
            got.add(method.getReturnType() + " " + method.getName() + types);
            names.add(method.getName());
            hold(!Modifier.isStatic(method.getModifiers()), method + " is static");
        }
        hold(got.equals(due), "the face is " + got);
        for (Method method : PalmsAltered.class.getDeclaredMethods()) {
            int modifiers = method.getModifiers();
            hold(Modifier.isPublic(modifiers) || Modifier.isPrivate(modifiers), method + " is seen from outside");
            hold(Modifier.isPublic(modifiers) || !names.contains(method.getName()), method + " bears a public name");
        }
        for (Constructor<?> constructor : PalmsAltered.class.getDeclaredConstructors()) {
            hold(Modifier.isPublic(constructor.getModifiers()) && constructor.getParameterCount() == 0, constructor + " is there");
        }
        hold(Modifier.isFinal(PalmsAltered.class.getModifiers()), "the class is not final");
        inside(names);
    }

    private static void inside(Set<String> names) {
        Set<String> constants = Set.of("NONE", "BAD", "STATE", "FULL", "NO");
        hold(PalmsAltered.class.getDeclaredClasses().length < 12, "too many classes");
        List<Class<?>> classes = new ArrayList<>(List.of(PalmsAltered.class.getDeclaredClasses()));
        for (Class<?> one : classes) {
            hold(Modifier.isStatic(one.getModifiers()), one + " is not static");
            for (Method method : one.getDeclaredMethods()) hold(!names.contains(method.getName()), method + " bears a public name");
        }
        classes.add(PalmsAltered.class);
        for (Class<?> one : classes) {
            int fields = 0;
            for (Method method : one.getDeclaredMethods()) hold(method.getParameterCount() <= 7, method + " takes too much");
            for (Field field : one.getDeclaredFields()) {
                boolean fixed = Modifier.isStatic(field.getModifiers());
                hold(!fixed || Modifier.isFinal(field.getModifiers()), field + " is static and not final");
                boolean face = one == PalmsAltered.class && constants.contains(field.getName());
                hold(one != PalmsAltered.class || face == !Modifier.isPrivate(field.getModifiers()), field + " is seen from outside");
                if (!fixed) fields++;
            }
            hold(fields <= 20, one + " has " + fields + " fields");
        }
        hold(PalmsAltered.NONE == -1 && PalmsAltered.BAD == -2 && PalmsAltered.STATE == -3 && PalmsAltered.FULL == -4
            && PalmsAltered.NO == Long.MIN_VALUE, "a constant is otherwise");
    }

    public static void main(String[] args) throws Exception {
        String source = Files.readString(Path.of("src/main/java/PalmsAltered.java"));
        words(bare(source));
        ascii(source);
        methodLengths(source);
        face(Files.readString(Path.of("../shared/DOC.md")));
        System.out.println(wrong == 0 ? "the rules that are looked at hold" : wrong + " rules are broken");
        if (wrong != 0) System.exit(1);
    }
}
