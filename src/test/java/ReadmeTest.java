import java.lang.reflect.InvocationTargetException;
import java.lang.reflect.Method;
import java.lang.reflect.Modifier;
import java.nio.file.Files;
import java.nio.file.Path;
import java.util.ArrayList;
import java.util.Arrays;
import java.util.LinkedHashMap;
import java.util.List;
import java.util.Map;
import java.util.Set;
import java.util.TreeMap;
import java.util.TreeSet;
import java.util.regex.Matcher;
import java.util.regex.Pattern;

/** What README.md says holds of the class: its calls answer what stands behind them, its table is so. */
public final class ReadmeTest {
    private static final int WRONG = 1, NOT_NOW = 2, NO_ROOM = 3, NO_SUCH = 4;
    private static int wrong = 0;

    private interface Call {
        long on(SunRings x);
    }

    /** A call of that name that is refused so; the number or the name stands in the README's row and column. */
    private record Refusal(String name, int column, String answer, Call call) { }

    private static final List<Refusal> REFUSALS = List.of(
        new Refusal("dark", WRONG, "BAD", x -> x.dark(1, 1)),
        new Refusal("together", WRONG, "BAD", x -> x.together(1, 1)),
        new Refusal("odds", WRONG, "BAD", x -> x.odds(1, 5, 4, -1, 0)),
        new Refusal("table", NOT_NOW, "NO", x -> x.table(0, 5, 288)),
        new Refusal("table", NOT_NOW, "NO", x -> x.table(0, 5, 407)),
        new Refusal("dark", NOT_NOW, "NO", x -> x.dark(0, 5)),
        new Refusal("wedge", NOT_NOW, "NO", x -> x.wedge(0, 600)),
        new Refusal("back", NOT_NOW, "NO", x -> x.back()),
        new Refusal("wedge", NO_ROOM, "FULL", x -> x.wedge(0, 900)),
        new Refusal("mark", NO_ROOM, "FULL", x -> x.mark(0, 0, 0, 0)),
        new Refusal("day", NO_ROOM, "FULL", x -> x.day(0, 0, 0)),
        new Refusal("keep", NO_ROOM, "FULL", x -> {
            for (int n = 0; n < 3; n++) x.keep();
            return x.keep();
        }),
        new Refusal("outside", NO_SUCH, "NONE", x -> x.outside(0, 0, 489)),
        new Refusal("bow", NO_SUCH, "NONE", x -> x.bow(5, 0, 0, 0)),
        new Refusal("bow", NO_SUCH, "NONE", x -> x.bow(5, 0, 0, 1)),
        new Refusal("bow", NO_SUCH, "-100000", x -> x.bow(5, 0, 0, 2)),
        new Refusal("bow", NO_SUCH, "-100000", x -> x.bow(1, 0, 421, 2)),
        new Refusal("turned", NO_SUCH, "-10000", x -> x.turned(600, 0, 0)),
        new Refusal("ring", NO_SUCH, "-10000", x -> x.ring(1200, 0)),
        new Refusal("light", NO_SUCH, "NONE", x -> x.light(4, 0, 0, 0)),
        new Refusal("fewest", NO_SUCH, "NONE", x -> x.fewest(0)),
        new Refusal("heights", NO_SUCH, "NONE", x -> x.heights(65535, 0)),
        new Refusal("maker", NO_SUCH, "NONE", x -> x.maker(0)),
        new Refusal("odds", NO_SUCH, "NONE", x -> x.odds(1, 1, 40, -1, 0)));

    public static void main(String[] args) throws Exception {
        String readme = Files.readString(Path.of("README.md"));
        examples(readme);
        Map<String, String[]> rows = rows(readme);
        allCallsHaveRows(rows);
        wrongNumbers(rows);
        refusals(rows);
        constants(readme);
        testsAreNamed(readme);
        System.out.println(wrong == 0 ? "ReadmeTest: all so" : "ReadmeTest: " + wrong + " not so");
        if (wrong != 0) System.exit(1);
    }

    private static void must(boolean holds, String what) {
        if (!holds) {
            wrong++;
            System.out.println("ReadmeTest: " + what);
        }
    }

    private static Map<String, Method> calls() {
        Map<String, Method> all = new TreeMap<>();
        for (Method m : SunRings.class.getDeclaredMethods()) {
            if (Modifier.isPublic(m.getModifiers())) all.put(m.getName(), m);
        }
        return all;
    }

    private static long answer(SunRings x, Method m, Object... args)
            throws IllegalAccessException, InvocationTargetException {
        return ((Number) m.invoke(x, args)).longValue();
    }

    /** The rows of the code that begin with 'sky.', in their order on one object. */
    private static void examples(String readme) throws Exception {
        SunRings sky = new SunRings();
        Pattern row = Pattern.compile("sky\\.(\\w+)\\(([-\\d, ]*)\\); +// (-?\\d+): .+");
        int told = 0;
        for (String line : readme.split("\n")) {
            if (!line.startsWith("sky.")) continue;
            Matcher m = row.matcher(line);
            told++;
            must(m.matches(), "no example: " + line);
            if (!m.matches()) continue;
            Object[] args = m.group(2).isEmpty() ? new Object[0]
                    : Arrays.stream(m.group(2).split(", ")).map(Integer::valueOf).toArray();
            long got = answer(sky, calls().get(m.group(1)), args);
            must(got == Long.parseLong(m.group(3)), line + " answered " + got);
        }
        must(told >= 20, told + " examples only");
    }

    private static Map<String, String[]> rows(String readme) {
        Map<String, String[]> rows = new LinkedHashMap<>();
        for (String line : readme.split("\n")) {
            if (!line.startsWith("| `")) continue;
            String[] cells = line.substring(2, line.length() - 1).split("\\|", -1);
            must(cells.length == 5, "five cells: " + line);
            for (int n = 0; n < cells.length; n++) cells[n] = cells[n].trim();
            rows.put(cells[0].replace("`", ""), Arrays.copyOf(cells, 5));
        }
        return rows;
    }

    private static void allCallsHaveRows(Map<String, String[]> rows) {
        must(new TreeSet<>(rows.keySet()).equals(calls().keySet()), "rows of the table: " + rows.keySet());
    }

    private static int number(String answer) {
        switch (answer) {
            case "BAD": return SunRings.BAD;
            case "NO": return SunRings.NO;
            case "FULL": return SunRings.FULL;
            case "NONE": return SunRings.NONE;
            default: return Integer.parseInt(answer);
        }
    }

    private static void wrongNumbers(Map<String, String[]> rows) throws Exception {
        for (Method m : calls().values()) {
            String cell = rows.get(m.getName())[WRONG];
            int many = m.getParameterCount();
            must(cell.isEmpty() == (many == 0), "a wrong number of " + m.getName() + ": '" + cell + "'");
            if (many == 0 || cell.isEmpty()) continue;
            Object[] args = new Object[many];
            Arrays.fill(args, Integer.MIN_VALUE);
            long got = answer(new SunRings(), m, args);
            must(got == number(cell.split(",")[0]), "a wrong number of " + m.getName() + " answered " + got);
        }
    }

    /** Three wedges of kind 0, twelve marks that no light meets, a sun in the cut that no light makes, sixty days. */
    private static SunRings full() {
        SunRings x = new SunRings();
        for (int w : new int[] {600, 300, 400}) x.wedge(0, w);
        for (int n = 0; n < 12; n++) x.mark(0, 1, 0, 0);
        for (int n = 0; n < 60; n++) x.day(0, 0, 1);
        x.cut(6, 1);
        return x;
    }

    private static void refusals(Map<String, String[]> rows) {
        Set<String> refused = new TreeSet<>(), told = new TreeSet<>();
        for (Refusal r : REFUSALS) {
            long got = r.call.on(full());
            must(got == number(r.answer), r.name + ", " + r.answer + ": answered " + got);
            String cell = rows.get(r.name)[r.column];
            must(Pattern.compile("(^|[ ,])" + r.answer + "([:,]|$)").matcher(cell).find(),
                    r.name + " has no '" + r.answer + "' in '" + cell + "'");
            if (r.column != WRONG) refused.add(r.name + " " + r.column);
        }
        rows.forEach((name, cells) -> {
            for (int n = NOT_NOW; n <= NO_SUCH; n++) {
                if (!cells[n].isEmpty()) told.add(name + " " + n);
            }
        });
        must(refused.equals(told), "refusals are " + refused + ", the table tells " + told);
    }

    private static void constants(String readme) {
        for (String name : List.of("BAD", "NO", "FULL", "NONE")) {
            must(readme.contains("- `" + name + "` (" + number(name) + "): "), "the number of " + name);
        }
        must(readme.contains("at most 512 calls"), "how many calls an object is used for");
    }

    private static void testsAreNamed(String readme) throws Exception {
        List<String> tests = new ArrayList<>();
        try (var files = Files.list(Path.of("src/test/java"))) {
            files.forEach(f -> tests.add(f.getFileName().toString().replace(".java", "")));
        }
        for (String test : tests) {
            must(!test.endsWith("Test") || readme.contains("`" + test + "`"), test + " is not named");
        }
    }
}
