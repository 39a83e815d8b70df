import java.lang.reflect.Member;
import java.lang.reflect.Method;
import java.lang.reflect.Modifier;
import java.nio.file.Files;
import java.nio.file.Path;
import java.util.TreeSet;
import java.util.regex.Matcher;
import java.util.regex.Pattern;

/** The rules of LANGUAGE.md that can be seen from the source or from the compiled class. */
public final class LanguageTest {
    private static final String[] FACE = {"today", "holiday", "place", "change", "feed", "end", "text", "fault", "claim", "fact", "doubt",
        "last", "step", "span", "changed", "act", "want", "cheapest", "worth", "one", "pay", "contest", "beside", "image", "look"};
    private static final String[] BANNED = {"\\bthrow\\b", "\\btry\\b", "\\bcatch\\b", "\\bsynchronized\\b", "\\bassert\\b", "->", "::",
        "\"\\s*\\+", "\\+\\s*\"", "Exact\\(", "\\bstatic\\s*\\{", "\\bhashCode\\b", "\\btoString\\(\\)", "@", "\\bwhile \\(true\\)", "\\bfor \\(;;\\)", "\\bpackage\\b"};
    private static int wrong = 0;

    public static void main(String[] args) throws Exception {
        String source = Files.readString(Path.of(args[0], "src/main/java/RanOut.java"));
        String bare = source.replaceAll("(?s)/\\*.*?\\*/", "").replaceAll("//[^\n]*", "");
        for (String banned : BANNED) {
            Matcher m = Pattern.compile(banned).matcher(bare);
            blame(m.find(), "found " + banned);
        }
        Matcher imports = Pattern.compile("import ([^;]+);").matcher(bare);
        while (imports.find()) {
            blame(!imports.group(1).equals("java.util.Arrays"), "import " + imports.group(1));
        }
        blame(!source.chars().allMatch(c -> c == '\n' || c >= 32 && c < 127), "a sign beyond 127");
        methods(bare);
        face();
        nested();
        System.out.println(wrong == 0 ? "LanguageTest: nothing found" : "LanguageTest: " + wrong + " found");
        System.exit(wrong == 0 ? 0 : 1);
    }

    private static void blame(boolean is, String what) {
        if (is) {
            wrong++;
            System.out.println(what);
        }
    }

    private static void methods(String bare) {
        String[] lines = bare.split("\n");
        for (int i = 0; i < lines.length; i++) {
            Matcher m = Pattern.compile("^( {4}| {8})(private |public |static |final )*[\\w\\[\\]]+ ?\\w*\\(([^)]*)\\) \\{$").matcher(lines[i]);
            if (!m.matches()) {
                continue;
            }
            blame(m.group(3).split(",").length > 7, "more than seven parameters: " + lines[i]);
            int end = i;
            while (!lines[end].equals(m.group(1) + "}")) {
                end++;
            }
            blame(end - i > 60, "more than sixty lines: " + lines[i]);
        }
    }

    private static void face() {
        TreeSet<String> names = new TreeSet<>(java.util.List.of(FACE));
        TreeSet<String> found = new TreeSet<>();
        for (Method m : RanOut.class.getDeclaredMethods()) {
            if (Modifier.isPublic(m.getModifiers())) {
                found.add(m.getName());
            } else {
                hidden(m);
                blame(names.contains(m.getName()), "private method with a public name: " + m.getName());
            }
        }
        blame(!found.equals(names), "public methods " + found);
        for (java.lang.reflect.Field f : RanOut.class.getDeclaredFields()) {
            if (!f.getName().equals("NONE")) {
                hidden(f);
            }
        }
        blame(!Modifier.isFinal(RanOut.class.getModifiers()), "RanOut is not final");
        blame(RanOut.class.getDeclaredConstructors().length != 1, "constructors");
    }

    private static void hidden(Member m) {
        blame(!Modifier.isPrivate(m.getModifiers()), "not private: " + m.getName());
    }

    private static void nested() {
        Class<?>[] classes = RanOut.class.getDeclaredClasses();
        blame(classes.length > 11, "more than twelve classes");
        for (Class<?> c : classes) {
            blame(!Modifier.isStatic(c.getModifiers()), "not static: " + c.getName());
            int fields = 0;
            for (java.lang.reflect.Field f : c.getDeclaredFields()) {
                fields += Modifier.isStatic(f.getModifiers()) ? 0 : 1;
            }
            blame(fields > 20, "more than twenty fields: " + c.getName());
        }
    }
}
