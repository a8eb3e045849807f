import java.io.IOException;
import java.lang.reflect.Field;
import java.lang.reflect.Method;
import java.lang.reflect.Modifier;
import java.nio.file.Files;
import java.nio.file.Path;
import java.util.ArrayList;
import java.util.HashSet;
import java.util.List;
import java.util.Set;
import java.util.regex.Matcher;
import java.util.regex.Pattern;

/** Rules of LANGUAGE.md that can be read off the file or the classes. Run from the project's folder. */
public final class LanguageTest {
    private static final Check CHECK = new Check("LanguageTest");

    public static void main(String[] args) throws IOException {
        String source = Files.readString(Path.of("src/main/java/EmptyHat.java"));
        String code = source.replaceAll("(?s)/\\*.*?\\*/", "").replaceAll("//.*", "");
        words(code.replaceAll("\"[^\"]*\"", "\"\"").replaceAll("'[^']*'", "' '"));
        imports(code);
        lengths(source);
        classes();
        CHECK.finish();
    }

    /** Rules 2, 4, 6, 10. */
    private static void words(String code) {
        String[] never = {"\\bthrow\\b", "\\btry\\b", "\\bcatch\\b", "\\bsynchronized\\b", "\\bassert\\b", "->", "::",
            "\\bprotected\\b", "\\bthrows\\b", "\\bnative\\b", "\\btransient\\b", "\\bvolatile\\b", "\"\\s*\\+", "\\+\\s*\"",
            "\\bequals\\b", "\\bhashCode\\b", "\\btoString\\b", "\\w+Exact\\b", "\\bRandom\\b", "\\bThread\\b",
            "currentTimeMillis", "nanoTime", "static\\s*\\{", "\\bvar\\b", "while \\(true\\)", "for \\(;;"};
        for (String n : never) {
            Matcher m = Pattern.compile(n).matcher(code);
            CHECK.due("finds " + n, m.find(), false);
        }
    }

    private static void imports(String code) {
        Matcher m = Pattern.compile("(?m)^(import|package) .*$").matcher(code);
        List<String> found = new ArrayList<>();
        while (m.find()) {
            found.add(m.group());
        }
        CHECK.due("imports " + found, found.equals(List.of("import java.util.Arrays;")), true);
    }

    /** Rule 11: methods stay short. */
    private static void lengths(String source) {
        String[] lines = source.split("\n");
        for (int from = 0; from < lines.length; from++) {
            String line = lines[from];
            String indent = line.replaceAll("\\S.*", "");
            if (line.endsWith("{") && line.contains("(") && indent.length() <= 8 && !line.trim().startsWith("}")) {
                int to = from;
                while (to < lines.length && !lines[to].equals(indent + "}")) {
                    to++;
                }
                CHECK.due("lines of " + line.trim(), to - from + 1 <= 60, true);
            }
        }
    }

    /** Rules 1, 2, 5, 11. */
    private static void classes() {
        Set<String> open = new HashSet<>();
        for (Method m : EmptyHat.class.getDeclaredMethods()) {
            if (Modifier.isPublic(m.getModifiers())) {
                open.add(m.getName());
            }
        }
        List<Class<?>> all = new ArrayList<>(List.of(EmptyHat.class.getDeclaredClasses()));
        all.add(EmptyHat.class);
        CHECK.due("classes", all.size() <= 12, true);
        for (Class<?> c : all) {
            int fields = 0;
            for (Field f : c.getDeclaredFields()) {
                boolean fixed = Modifier.isStatic(f.getModifiers());
                fields += fixed ? 0 : 1;
                CHECK.due("final " + f, !fixed || Modifier.isFinal(f.getModifiers()), true);
            }
            CHECK.due("fields of " + c, fields <= 20, true);
            for (Method m : c.getDeclaredMethods()) {
                CHECK.due("parameters of " + m, m.getParameterCount() <= 7, true);
                boolean face = c == EmptyHat.class && Modifier.isPublic(m.getModifiers());
                CHECK.due("a name of its own: " + m, face || !open.contains(m.getName()), true);
            }
        }
    }
}
