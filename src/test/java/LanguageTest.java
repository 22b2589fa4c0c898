import java.nio.file.Files;
import java.nio.file.Path;
import java.lang.reflect.Field;
import java.lang.reflect.Modifier;
import java.util.ArrayDeque;
import java.util.ArrayList;
import java.util.Deque;
import java.util.HashMap;
import java.util.List;
import java.util.Map;
import java.util.Set;
import java.util.TreeSet;
import java.util.regex.Matcher;
import java.util.regex.Pattern;

/** Those rules of LANGUAGE.md that can be read off the text of the program. Run from the project's root. */
public final class LanguageTest {
    private static int wrong = 0;

    private static void never(String code, String pattern, String why) {
        Matcher m = Pattern.compile(pattern).matcher(code);
        while (m.find()) {
            wrong++;
            System.out.println("LanguageTest: '" + m.group() + "': " + why);
        }
    }

    public static void main(String[] args) throws Exception {
        String text = Files.readString(Path.of("src/main/java/SunRings.java"));
        String code = text.replaceAll("(?s)/\\*.*?\\*/", "").replaceAll("//[^\n]*", "");
        never(code, "\\b(throw|throws|try|catch|synchronized|assert)\\b", "rule 6");
        never(code, "->|::", "rule 2");
        never(code, "\\b(double|float)\\b", "none is needed");
        never(code, "\\bimport (?!java\\.util\\.(Arrays|ArrayList|List);)[^;]*;", "rule 4");
        never(code, "\\bpackage\\b", "no package line");
        never(code, "\\b(Math|Integer|Long)\\.(?!max\\(|min\\(|abs\\(|floorMod\\(|floorDiv\\(|bitCount\\()\\w+", "rule 4");
        never(code, "Arrays\\.(?!fill\\(|copyOf\\(|copyOfRange\\()\\w+", "rule 4");
        never(code, "\\bstatic\\s*\\{", "rule 5");
        never(code, "\\b(protected|native|volatile|transient)\\b", "rule 1");
        never(code, "\\w+\\s*\\((\\s*int \\w+,){7,}", "rule 11, seven parameters");
        never(text, "[^\\x00-\\x7f]", "signs beyond 127");
        longMethods(text);
        classes();
        depth(code);
        System.out.println(wrong == 0 ? "LanguageTest: all kept" : "LanguageTest: " + wrong + " broken");
        if (wrong != 0) System.exit(1);
    }

    private static void must(boolean holds, String why) {
        if (!holds) {
            wrong++;
            System.out.println("LanguageTest: " + why);
        }
    }

    private static void classes() {
        List<Class<?>> all = new ArrayList<>(List.of(SunRings.class.getDeclaredClasses()));
        all.add(SunRings.class);
        must(all.size() <= 12, "rule 11, " + all.size() + " classes");
        for (Class<?> c : all) {
            int fields = 0;
            for (Field f : c.getDeclaredFields()) {
                fields += Modifier.isStatic(f.getModifiers()) ? 0 : 1;
                must(!Modifier.isStatic(f.getModifiers()) || Modifier.isFinal(f.getModifiers()), "rule 5, " + f);
            }
            must(fields <= 20, "rule 11, " + fields + " fields of " + c);
            must(c == SunRings.class || Modifier.isStatic(c.getModifiers()), "rule 2, " + c);
        }
    }

    /** By name: methods of one name in two classes are taken for one, so the depth is told too great rather than too small. */
    private static void depth(String code) {
        Map<String, Set<String>> calls = new HashMap<>();
        Matcher open = Pattern.compile("(?m)^( {4}| {8})(?! )[\\w ]*?\\b(\\w+)\\([^)]*\\) \\{$").matcher(code);
        Map<String, String> bodies = new HashMap<>();
        while (open.find()) {
            int end = code.indexOf("\n" + open.group(1) + "}", open.end());
            bodies.merge(open.group(2), code.substring(open.end(), end), String::concat);
        }
        must(bodies.size() > 60, "methods are found: " + bodies.size());
        bodies.forEach((name, body) -> {
            Set<String> called = new TreeSet<>();
            Matcher m = Pattern.compile("(\\w+)\\(").matcher(body);
            while (m.find()) {
                if (bodies.containsKey(m.group(1))) called.add(m.group(1));
            }
            calls.put(name, called);
        });
        for (String name : calls.keySet()) {
            String chain = tooDeep(name, calls, new ArrayDeque<>());
            must(chain == null, "rule 11, more than eight deep, or a method that calls itself: " + chain);
        }
    }

    /** The first chain of calls from there that goes more than eight deep (one that closes on itself does); null, if none. */
    private static String tooDeep(String name, Map<String, Set<String>> calls, Deque<String> open) {
        if (open.size() == 8) return name + " in " + open;
        open.push(name);
        for (String next : calls.get(name)) {
            String chain = tooDeep(next, calls, open);
            if (chain != null) return chain;
        }
        open.pop();
        return null;
    }

    /** A method opens with a line that ends in ") {" at a class's depth and closes at the same depth. */
    private static void longMethods(String text) {
        String[] lines = text.split("\n");
        for (int from = 0; from < lines.length; from++) {
            Matcher open = Pattern.compile("^( {4}| {8})(public|private|static|int|void|boolean|long|[A-Z]\\w*).*\\) \\{$")
                    .matcher(lines[from]);
            if (!open.find() || lines[from].contains(" class ")) continue;
            int to = from;
            while (to < lines.length && !lines[to].equals(open.group(1) + "}")) to++;
            if (to - from > 60) {
                wrong++;
                System.out.println("LanguageTest: rule 11, " + (to - from) + " lines: " + lines[from].trim());
            }
        }
    }
}
