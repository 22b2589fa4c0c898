import java.nio.file.Files;
import java.nio.file.Path;
import java.util.regex.Matcher;
import java.util.regex.Pattern;

/** Those rules of LANGUAGE.md that can be read off the text of the program. Run from the project's root. */
public final class LanguageTest {
    private static int wrong = 0;

    private static void never(String code, String pattern, String why) {
        Matcher m = Pattern.compile(pattern).matcher(code);
        while (m.find()) {
            wrong++;
            System.out.println("LanguageTest: '" + m.group() + "': " + why);
        }
    }

    public static void main(String[] args) throws Exception {
        String text = Files.readString(Path.of("src/main/java/SunRings.java"));
        String code = text.replaceAll("(?s)/\\*.*?\\*/", "").replaceAll("//[^\n]*", "");
        never(code, "\\b(throw|throws|try|catch|synchronized|assert)\\b", "rule 6");
        never(code, "->|::", "rule 2");
        never(code, "\\b(double|float)\\b", "none is needed");
        never(code, "\\bimport (?!java\\.util\\.(Arrays|ArrayList|List);)[^;]*;", "rule 4");
        never(code, "\\bpackage\\b", "no package line");
        never(code, "\\b(Math|Integer|Long)\\.(?!max\\(|min\\(|abs\\(|floorMod\\(|floorDiv\\(|bitCount\\()\\w+", "rule 4");
        never(code, "Arrays\\.(?!fill\\(|copyOf\\(|copyOfRange\\()\\w+", "rule 4");
        never(code, "\\bstatic\\s*\\{", "rule 5");
        never(code, "\\b(protected|native|volatile|transient)\\b", "rule 1");
        never(code, "\\w+\\s*\\((\\s*int \\w+,){7,}", "rule 11, seven parameters");
        never(text, "[^\\x00-\\x7f]", "signs beyond 127");
        longMethods(text);
        System.out.println(wrong == 0 ? "LanguageTest: all kept" : "LanguageTest: " + wrong + " broken");
        if (wrong != 0) System.exit(1);
    }

    /** A method opens with a line that ends in ") {" at a class's depth and closes at the same depth. */
    private static void longMethods(String text) {
        String[] lines = text.split("\n");
        for (int from = 0; from < lines.length; from++) {
            Matcher open = Pattern.compile("^( {4}| {8})(public|private|static|int|void|boolean|long|[A-Z]\\w*).*\\) \\{$")
                    .matcher(lines[from]);
            if (!open.find() || lines[from].contains(" class ")) continue;
            int to = from;
            while (to < lines.length && !lines[to].equals(open.group(1) + "}")) to++;
            if (to - from > 60) {
                wrong++;
                System.out.println("LanguageTest: rule 11, " + (to - from) + " lines: " + lines[from].trim());
            }
        }
    }
}
