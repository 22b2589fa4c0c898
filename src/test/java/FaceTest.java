import java.lang.reflect.Constructor;
import java.lang.reflect.Field;
import java.lang.reflect.Method;
import java.lang.reflect.Modifier;
import java.nio.file.Files;
import java.nio.file.Path;
import java.util.ArrayList;
import java.util.Arrays;
import java.util.List;
import java.util.Set;
import java.util.TreeSet;
import java.util.regex.Matcher;
import java.util.regex.Pattern;

/** The public face is the document's, no more and no less (LANGUAGE.md 1 and 5). */
public final class FaceTest {
    private static final List<String> METHODS = List.of(
        "int table(int,int,int)", "int rule(int,int)", "int inside(int,int,int)", "int outside(int,int,int)",
        "int ray(int,int,int,int)", "long map(int,int,int)", "int bow(int,int,int,int)", "int dark(int,int)",
        "int wedge(int,int)", "int noWedges(int)", "int turned(int,int,int)", "int ring(int,int)",
        "int light(int,int,int,int)", "int mark(int,int,int,int)", "int wipe()", "int explains(int,int)",
        "int fewest(int)", "int owed(int,int)", "int never()", "int heights(int,int)", "int cut(int,int)",
        "int made(int,int)", "int maker(int)", "int day(int,int,int)", "int odds(int,int,int,int,int)",
        "int together(int,int)", "int keep()", "int back()", "int count(int)");
    private static int wrong = 0;

    private static void must(boolean holds, String what) {
        if (!holds) {
            wrong++;
            System.out.println("FaceTest: " + what);
        }
    }

    public static void main(String[] args) throws Exception {
        must(Modifier.isPublic(SunRings.class.getModifiers()) && Modifier.isFinal(SunRings.class.getModifiers()),
                "the class is public and final");
        checkMethods();
        checkFields();
        checkText();
        Constructor<?>[] made = SunRings.class.getDeclaredConstructors();
        must(made.length == 1 && Modifier.isPublic(made[0].getModifiers()) && made[0].getParameterCount() == 0,
                "one public constructor without arguments");
        must(SunRings.BAD == -1 && SunRings.NO == -2 && SunRings.FULL == -3 && SunRings.NONE == -4,
                "the constants' numbers");
        for (Class<?> inside : SunRings.class.getDeclaredClasses()) {
            must(Modifier.isStatic(inside.getModifiers()), inside + " is static");
        }
        System.out.println(wrong == 0 ? "FaceTest: all as told" : "FaceTest: " + wrong + " wrong");
        if (wrong != 0) System.exit(1);
    }

    private static void checkMethods() {
        Set<String> found = new TreeSet<>();
        Set<String> names = new TreeSet<>();
        for (Method m : SunRings.class.getDeclaredMethods()) {
            if (!Modifier.isPublic(m.getModifiers())) continue;
            StringBuilder b = new StringBuilder(m.getReturnType() + " " + m.getName() + "(");
            for (Class<?> p : m.getParameterTypes()) b.append(b.charAt(b.length() - 1) == '(' ? "" : ",").append(p);
            found.add(b.append(")").toString());
            names.add(m.getName());
        }
        must(found.equals(new TreeSet<>(METHODS)), "public methods are " + found);
        for (Method m : SunRings.class.getDeclaredMethods()) {
            must(Modifier.isPublic(m.getModifiers()) || Modifier.isPrivate(m.getModifiers()), m + " is seen");
            must(Modifier.isPublic(m.getModifiers()) || !names.contains(m.getName()), m + " bears a public name");
        }
        for (Class<?> inside : SunRings.class.getDeclaredClasses()) {
            for (Method m : inside.getDeclaredMethods()) {
                must(!names.contains(m.getName()), m + " bears a public name");
            }
        }
    }

    /** The document's own lines, names of arguments too, stand in the program in their order, each part under its name. */
    private static void checkText() throws Exception {
        String document = Files.readString(Path.of("../shared/DOC.md"));
        String program = Files.readString(Path.of("src/main/java/SunRings.java"));
        String face = document.substring(document.indexOf("```java"), document.indexOf("## Terms"));
        List<String> due = new ArrayList<>(List.of("public final class SunRings {",
                "public static final int BAD = -1, NO = -2, FULL = -3, NONE = -4;"));
        for (String line : face.split("\n")) {
            Matcher call = Pattern.compile("^ +(public [^=]*?(\\w+)\\([^)]*\\));$").matcher(line);
            if (!call.find()) continue;
            Matcher part = Pattern.compile("Ahead of the calls `" + call.group(2) + "`.* says: ---- (\\w+)\\.")
                    .matcher(document);
            if (part.find()) due.add("// ---- " + part.group(1));
            due.add(call.group(1) + " {");
        }
        must(due.size() == 2 + 1 + METHODS.size() + 5, "lines of the document's face: " + due);
        int at = 0;
        for (String line : due) {
            int next = program.indexOf(line, at);
            must(next >= 0, "'" + line + "' stands behind the one ahead of it");
            at = Math.max(at, next);
        }
    }

    private static void checkFields() {
        for (Field f : SunRings.class.getDeclaredFields()) {
            boolean open = Arrays.asList("BAD", "NO", "FULL", "NONE").contains(f.getName());
            must(open ? Modifier.isPublic(f.getModifiers()) : Modifier.isPrivate(f.getModifiers()), "field " + f);
            must(!open || f.getType() == int.class, "field " + f + " is an int");
            must(!Modifier.isStatic(f.getModifiers()) || Modifier.isFinal(f.getModifiers()), "field " + f + " is final");
        }
    }
}
