import java.util.ArrayList;
import java.util.Arrays;
import java.util.List;

/**
 * "Nothing changes then": after refused calls, and after questions, an object answers just as its twin
 * that has not been asked them. All that can be told from outside is read; what is read by changing it comes last.
 */
public final class EdgesRefusedTest {
    private interface Call {
        long on(SunRings x, int[] a);
    }

    /** A call, what it answers for a wrong number, good arguments, and from where to where each may go. */
    private record Row(String name, Call call, int bad, int[] good, int[] least, int[] most) { }

    private static final List<Row> ROWS = List.of(
        row("table", (x, a) -> x.table(a[0], a[1], a[2]), -1, of(0, 1, 50), of(0, 1, 0), of(2, 9, 100)),
        row("table at 900", (x, a) -> x.table(a[0], 9, a[1]), -1, of(0, 700), of(0, 0), of(2, 900)),
        row("rule 0", (x, a) -> x.rule(0, a[0]), -1000, of(1), of(0), of(20)),
        row("rule 1", (x, a) -> x.rule(1, a[0]), -1000, of(1), of(-100), of(100)),
        row("rule 2", (x, a) -> x.rule(2, a[0]), -1000, of(1), of(0), of(100)),
        row("rule 3", (x, a) -> x.rule(3, a[0]), -1000, of(600), of(500), of(9000)),
        row("rule 4", (x, a) -> x.rule(4, a[0]), -1000, of(1), of(0), of(300)),
        row("rule what", (x, a) -> x.rule(a[0] == 3 ? 4 : a[0], 10), -1000, of(0), of(0), of(4)),
        row("inside", (x, a) -> x.inside(a[0], a[1], a[2]), -1, of(1, 1, 500), of(0, 0, 0), of(2, 3, 900)),
        row("outside", (x, a) -> x.outside(a[0], a[1], a[2]), -1, of(1, 1, 300), of(0, 0, 0), of(2, 3, 900)),
        row("ray", (x, a) -> x.ray(a[0], a[1], a[2], a[3]), -100000,
            of(1, 1, 450, 1), of(0, 0, 0, 0), of(5, 3, 900, 4)),
        row("map", (x, a) -> x.map(a[0], a[1], a[2]), -1, of(1, 1, 140), of(0, 0, 0), of(5, 3, 180)),
        row("bow", (x, a) -> x.bow(a[0], a[1], a[2], a[3]), -1000000,
            of(1, 1, 100, 1), of(0, 0, 0, 0), of(5, 3, 900, 2)),
        row("dark, a", (x, a) -> x.dark(a[0], 1), -1, of(2), of(2), of(5)),
        row("dark, a below", (x, a) -> x.dark(a[0], 5), -1, of(2), of(0), of(4)),
        row("dark, b", (x, a) -> x.dark(1, a[0]), -1, of(2), of(2), of(5)),
        row("dark, b below", (x, a) -> x.dark(5, a[0]), -1, of(2), of(0), of(4)),
        row("wedge", (x, a) -> x.wedge(a[0], a[1]), -1, of(2, 650), of(0, 200), of(3, 1200)),
        row("noWedges", (x, a) -> x.noWedges(a[0]), -1, of(2), of(0), of(3)),
        row("turned", (x, a) -> x.turned(a[0], a[1], a[2]), -100000, of(600, 1, 400), of(200, 0, 0), of(1200, 3, 900)),
        row("ring", (x, a) -> x.ring(a[0], a[1]), -100000, of(600, 1), of(200, 0), of(1200, 3)),
        row("light", (x, a) -> x.light(a[0], a[1], a[2], a[3]), -1,
            of(3, 300, 0, 2), of(0, 0, -1, 0), of(15, 900, Edges.HIGH, 3)),
        row("mark", (x, a) -> x.mark(a[0], a[1], a[2], a[3]), -1, of(3, 1, 900, 9), of(-1, -1, 0, 0), of(3, 3, 1800, 200)),
        row("explains", (x, a) -> x.explains(a[0], a[1]), -1, of(9, 300), of(0, 0), of(65535, 900)),
        row("fewest", (x, a) -> x.fewest(a[0]), -1, of(300), of(0), of(900)),
        row("owed", (x, a) -> x.owed(a[0], a[1]), -1, of(9, 300), of(0, 0), of(65535, 900)),
        row("heights", (x, a) -> x.heights(a[0], a[1]), -1, of(9, 0), of(0, -1), of(65535, Edges.HIGH)),
        row("cut", (x, a) -> x.cut(a[0], a[1]), -100, of(3, 0), of(0, -1), of(11, 1)),
        row("made", (x, a) -> x.made(a[0], a[1]), -1, of(9, 300), of(0, 0), of(65535, 900)),
        row("maker", (x, a) -> x.maker(a[0]), -1, of(300), of(0), of(900)),
        row("day", (x, a) -> x.day(a[0], a[1], a[2]), -1, of(0, 1, 7), of(-60, 0, 0), of(40, 3, 65535)),
        row("odds", (x, a) -> x.odds(a[0], a[1], a[2], a[3], a[4]), -1,
            of(1, -5, 5, 1, 1), of(0, -60, -5, -1, 0), of(15, 5, 40, 3, 1)),
        row("together, a", (x, a) -> x.together(a[0], 0), -1, of(1), of(1), of(15)),
        row("together, b", (x, a) -> x.together(15, a[0]), -1, of(1), of(0), of(14)),
        row("count", (x, a) -> x.count(a[0]), -1, of(0), of(0), of(5)));
    /** The calls of ROWS that only ask. */
    private static final List<String> QUESTIONS = List.of("inside", "outside", "ray", "map", "bow", "dark, a", "turned",
        "ring", "light", "explains", "fewest", "owed", "heights", "made", "maker", "odds", "together, a", "count");

    private static Edges e;

    private static Row row(String name, Call call, int bad, int[] good, int[] least, int[] most) {
        return new Row(name, call, bad, good, least, most);
    }

    private static int[] of(int... numbers) {
        return numbers;
    }

    public static void main(String[] args) throws Exception {
        e = new Edges("EdgesRefusedTest");
        e.says("BAD: a number is none that is told, there is no such thing.");
        for (Row row : ROWS) {
            taken(row);
        }
        e.says("Of several the first; nothing changes then.");
        for (Row row : ROWS) {
            refused(row);
        }
        ruleWhat();
        refusedByNo();
        refusedByFull();
        questions();
        e.end();
    }

    private static int[] with(int[] good, int at, int v) {
        int[] a = good.clone();
        a[at] = v;
        return a;
    }

    /** Just inside: the least and the most of each argument is no wrong number. */
    private static void taken(Row row) {
        for (int at = 0; at < row.good.length; at++) {
            for (int v : new int[] {row.least[at], row.most[at]}) {
                int[] a = with(row.good, at, v);
                e.due(row.name + Arrays.toString(a) + " is BAD", row.call.on(sky(), a) == row.bad ? 1 : 0, 0);
            }
        }
    }

    /** Just outside, and far outside: refused, and no trace of it is left. */
    private static void refused(Row row) {
        SunRings x = sky();
        for (int at = 0; at < row.good.length; at++) {
            List<Integer> wrong = new ArrayList<>(List.of(row.least[at] - 1, Edges.LOW));
            if (row.most[at] != Edges.HIGH) wrong.addAll(List.of(row.most[at] + 1, Edges.HIGH));
            for (int v : wrong) {
                int[] a = with(row.good, at, v);
                e.due(row.name + Arrays.toString(a), row.call.on(x, a), row.bad);
            }
        }
        sameAsTwin(row.name, x, sky());
    }

    private static void ruleWhat() {
        SunRings x = sky();
        for (int what : new int[] {-1, 5, Edges.LOW, Edges.HIGH}) {
            for (int v : new int[] {0, 20, 100, 500}) {
                e.due("rule(" + what + ", " + v + ")", x.rule(what, v), -1000);
            }
        }
        sameAsTwin("rule", x, sky());
    }

    private static void refusedByNo() {
        e.says("NO: not as things stand.");
        SunRings x = sky();
        e.due("table, less than ahead", x.table(0, 5, 288), SunRings.NO);
        e.due("table, more than behind", x.table(1, 3, 291), SunRings.NO);
        e.due("table, the last", x.table(2, 9, 409), SunRings.NO);
        e.due("wedge, a full kind", x.wedge(0, 900), SunRings.NO);
        e.due("wedge, another", x.wedge(1, 600), SunRings.NO);
        e.due("dark", x.dark(0, 5), SunRings.NO);
        sameAsTwin("NO", x, sky());
        SunRings y = sky(), twin = sky();
        for (SunRings each : new SunRings[] {y, twin}) {
            each.back();
            each.back();
        }
        e.due("back", y.back(), SunRings.NO);
        e.due("back again", y.back(), SunRings.NO);
        sameAsTwin("back", y, twin);
    }

    private static void refusedByFull() {
        e.says("FULL.");
        SunRings x = sky(), twin = sky();
        for (SunRings each : new SunRings[] {x, twin}) {
            for (int n = each.count(1); n < 12; n++) {
                each.mark(3, 1, 100 * n, 0);
            }
            for (int n = each.count(2); n < 60; n++) {
                each.day(n - 60, n % 4, n);
            }
            each.keep();
        }
        e.due("wedge", x.wedge(0, 700), SunRings.FULL);
        e.due("mark", x.mark(0, 0, 5, 0), SunRings.FULL);
        e.due("day", x.day(3, 3, 32768), SunRings.FULL);
        x.rule(4, 11);
        twin.rule(4, 11);
        e.due("keep", x.keep(), SunRings.FULL);
        sameAsTwin("FULL", x, twin);
    }

    private static void questions() {
        e.says("Nothing is promised beyond the answers and state changes described above");
        SunRings x = sky();
        for (Row row : ROWS) {
            if (!QUESTIONS.contains(row.name)) continue;
            long first = row.call.on(x, row.good);
            e.due(row.name + " twice", row.call.on(x, row.good), first);
        }
        x.never();
        sameAsTwin("questions", x, sky());
    }

    /** A state in which nothing is as at first, and nothing but kind 0 is full. */
    private static SunRings sky() {
        SunRings x = new SunRings();
        x.table(0, 5, 350);
        x.wedge(3, 300);
        x.keep();
        x.table(1, 4, 290);
        x.table(2, 9, 420);
        int[] rules = {7, -30, 9, 2500, 70};
        for (int what = 0; what < 5; what++) {
            x.rule(what, rules[what]);
        }
        x.wedge(0, 600);
        x.wedge(0, 900);
        x.wedge(0, 250);
        x.wedge(1, 600);
        x.keep();
        x.rule(0, 3);
        x.rule(2, 5);
        x.table(1, 9, 499);
        x.mark(0, 0, x.ring(600, 0), 0);
        x.mark(2, -1, 1200, 3);
        x.mark(-1, 1, 1800, 20);
        x.mark(1, 3, 100, 30);
        x.cut(1, 1);
        x.cut(8, 1);
        x.cut(5, 0);
        x.day(-20, 1, 3);
        x.day(0, 1, 1);
        x.day(4, 2, 130);
        return x;
    }

    private static void sameAsTwin(String name, SunRings x, SunRings twin) {
        List<Long> got = told(x), due = told(twin);
        for (int n = 0; n < due.size(); n++) {
            e.due("after " + name + ", reading " + n, got.get(n), due.get(n));
        }
    }

    private static List<Long> told(SunRings x) {
        List<Long> all = new ArrayList<>();
        for (int what = 0; what <= 5; what++) {
            all.add((long) x.count(what));
        }
        tellDays(x, all);
        tellSky(x, all);
        tellKept(x, all);
        for (int p = 0; p < 12; p++) {
            all.add((long) x.cut(p, -1));
        }
        while (x.back() != SunRings.NO) {
            tellKept(x, all);
        }
        all.add((long) x.wipe());
        return all;
    }

    private static void tellDays(SunRings x, List<Long> all) {
        for (int cause = 0; cause < 16; cause++) {
            all.add((long) x.odds(cause, -60, 40, -1, cause % 2));
        }
        for (int cloud = 0; cloud < 4; cloud++) {
            all.add((long) x.odds(0, -60, 0, cloud, 1));
        }
        all.add((long) x.together(0, 1));
        all.add((long) x.together(1, 7));
    }

    private static void tellSky(SunRings x, List<Long> all) {
        all.add((long) x.never());
        all.add((long) x.heights(65535, -1));
        for (int h = 0; h <= 900; h += 150) {
            all.add((long) x.fewest(h));
            all.add((long) x.owed(65535, h));
            all.add((long) x.maker(h));
            all.add((long) x.explains(65535, h));
            all.add((long) x.made(15, h));
        }
        all.add(x.map(1, 3, 140));
        all.add((long) x.bow(2, 1, 100, 2));
    }

    /** TABLES, rules and WEDGES; these are read by taking them away. */
    private static void tellKept(SunRings x, List<Long> all) {
        for (int sort = 0; sort < 3; sort++) {
            for (int k = 1; k <= 9; k++) {
                all.add((long) x.inside(sort, 0, 100 * k));
            }
        }
        for (int what = 0; what < 5; what++) {
            all.add((long) x.rule(what, what == 3 ? 500 : 0));
        }
        for (int kind = 0; kind < 4; kind++) {
            for (int i = -1; i < 3; i++) {
                all.add((long) x.light(4 * kind, 0, i, 2));
            }
            all.add((long) x.noWedges(kind));
        }
    }
}
