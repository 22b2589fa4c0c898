/** Promise by promise: ordinary inputs, the edges that the document names, and wrong inputs; worked by hand. */
public final class PromisesTest {
    private static final int LOW = Integer.MIN_VALUE, HIGH = Integer.MAX_VALUE;
    private static int wrong = 0;

    private static void due(int promise, String call, long got, long want) {
        if (got != want) {
            wrong++;
            System.out.println("promise " + promise + ": " + call + " answered " + got + ", due is " + want);
        }
    }

    public static void main(String[] args) {
        newObject();
        table();
        rule();
        inside();
        outside();
        ray();
        map();
        bow();
        dark();
        wedges();
        turned();
        ring();
        light();
        lightFar();
        marks();
        explains();
        fewest();
        owed();
        never();
        heights();
        cut();
        made();
        maker();
        day();
        odds();
        together();
        keep();
        keptParts();
        count();
        System.out.println(wrong == 0 ? "PromisesTest: all as due" : "PromisesTest: " + wrong + " wrong");
        if (wrong != 0) System.exit(1);
    }

    /** Ice whose only wedge, 600 of kind 0, has its ring at 219. */
    private static SunRings ice() {
        SunRings x = new SunRings();
        x.wedge(0, 600);
        return x;
    }

    /** Drops that do not bend: INSIDE of i is i. */
    private static SunRings unbending() {
        SunRings x = new SunRings();
        for (int k = 9; k >= 1; k--) {
            x.table(0, k, 100 * k);
        }
        return x;
    }

    private static void newObject() {
        int[][] tables = {
            {0, 75, 149, 221, 289, 352, 406, 450, 478, 488},
            {0, 76, 151, 224, 294, 358, 414, 458, 487, 498},
            {0, 66, 132, 195, 254, 307, 353, 388, 410, 418}};
        SunRings x = new SunRings();
        for (int sort = 0; sort < 3; sort++) {
            for (int k = 0; k < 10; k++) {
                due(1, "inside " + sort + " " + k, x.inside(sort, 0, 100 * k), tables[sort][k]);
            }
        }
        int[] rules = {4, 0, 5, 3000, 60};
        for (int what = 0; what < 5; what++) {
            due(1, "rule " + what, x.rule(what, rules[what]), rules[what]);
        }
        for (int what = 0; what < 6; what++) {
            due(1, "count " + what, x.count(what), 0);
        }
        for (int p = 0; p < 12; p++) {
            due(1, "cut " + p, x.cut(p, -1), -1);
        }
        for (int kind = 0; kind < 4; kind++) {
            due(1, "noWedges " + kind, x.noWedges(kind), 0);
        }
        due(1, "wipe", x.wipe(), 0);
        due(1, "back", x.back(), SunRings.NO);
    }

    private static void table() {
        SunRings x = new SunRings();
        due(2, "most", x.table(2, 9, 900), 418);
        due(2, "above most", x.table(2, 9, 901), SunRings.BAD);
        due(2, "less than ahead", x.table(2, 9, 409), SunRings.NO);
        due(2, "unchanged", x.inside(2, 0, 900), 900);
        due(2, "as ahead", x.table(2, 9, 410), 900);
        due(2, "as behind", x.table(0, 8, 488), 478);
        due(2, "more than behind", x.table(0, 8, 489), SunRings.NO);
        due(2, "unchanged", x.inside(0, 0, 800), 488);
        due(2, "to 100 k", x.table(0, 1, 100), 75);
        due(2, "BAD ahead of NO", x.table(0, 1, 150), SunRings.BAD);
        due(2, "to 0", x.table(0, 1, 0), 100);
        due(2, "below 0", x.table(0, 1, -1), SunRings.BAD);
        due(2, "k 0", x.table(0, 0, 0), SunRings.BAD);
        due(2, "k 10", x.table(0, 10, 900), SunRings.BAD);
        due(2, "sort 3", x.table(3, 1, 70), SunRings.BAD);
        due(2, "sort -1", x.table(-1, 1, 70), SunRings.BAD);
        due(2, "far k", x.table(0, HIGH, 0), SunRings.BAD);
        due(2, "other sorts stay", x.inside(1, 0, 100), 76);
    }

    private static void rule() {
        int[] least = {0, -100, 0, 500, 0};
        int[] most = {20, 100, 100, 9000, 300};
        int[] first = {4, 0, 5, 3000, 60};
        SunRings x = new SunRings();
        for (int what = 0; what < 5; what++) {
            due(3, "too low", x.rule(what, least[what] - 1), -1000);
            due(3, "too high", x.rule(what, most[what] + 1), -1000);
            due(3, "lowest", x.rule(what, least[what]), first[what]);
            due(3, "highest", x.rule(what, most[what]), least[what]);
            due(3, "again", x.rule(what, most[what]), most[what]);
        }
        due(3, "what -1", x.rule(-1, 1), -1000);
        due(3, "what 5", x.rule(5, 1), -1000);
        due(3, "far", x.rule(LOW, HIGH), -1000);
    }

    private static void inside() {
        SunRings x = new SunRings();
        due(4, "half way", x.inside(2, 0, 50), 33);
        due(4, "cut", x.inside(1, 0, 199), 150);
        due(4, "colour 3", x.inside(0, 3, 900), 483);
        due(4, "colour 1", x.inside(0, 1, 900), 487);
        x.rule(0, 20);
        due(4, "fan 20", x.inside(0, 3, 900), 459);
        due(4, "fan 20, colour 0", x.inside(0, 0, 900), 488);
        due(4, "i 901", x.inside(0, 0, 901), SunRings.BAD);
        due(4, "i -1", x.inside(0, 0, -1), SunRings.BAD);
        due(4, "colour 4", x.inside(0, 4, 0), SunRings.BAD);
        due(4, "colour -1", x.inside(0, -1, 0), SunRings.BAD);
        due(4, "sort 3", x.inside(3, 0, 0), SunRings.BAD);
        due(4, "far", x.inside(LOW, HIGH, LOW), SunRings.BAD);
    }

    private static void outside() {
        SunRings x = new SunRings();
        due(5, "the last", x.outside(1, 0, 498), 900);
        due(5, "beyond", x.outside(1, 0, 499), SunRings.NONE);
        due(5, "the last, colour 3", x.outside(1, 3, 493), 900);
        due(5, "beyond, colour 3", x.outside(1, 3, 494), SunRings.NONE);
        due(5, "zero", x.outside(2, 3, 0), 0);
        due(5, "900", x.outside(0, 0, 900), SunRings.NONE);
        due(5, "901", x.outside(0, 0, 901), SunRings.BAD);
        due(5, "-1", x.outside(0, 0, -1), SunRings.BAD);
        due(5, "sort 3", x.outside(3, 0, 1), SunRings.BAD);
        due(5, "colour 4", x.outside(0, 4, 1), SunRings.BAD);
        x.table(0, 2, 75);
        due(5, "least of a flat", x.outside(0, 0, 75), 100);
        due(5, "behind the flat", x.outside(0, 0, 76), 201);
        due(5, "no bending", unbending().outside(0, 0, 900), 900);
    }

    private static void ray() {
        SunRings x = new SunRings();
        due(6, "turns, no mirror", x.ray(0, 0, 900, 0), 824);
        due(6, "turns, five", x.ray(5, 0, 0, 0), 9000);
        due(6, "from the sun 1800", x.ray(5, 0, 0, 1), 1800);
        due(6, "from the sun 3600", x.ray(2, 0, 0, 1), 0);
        due(6, "colour", x.ray(1, 3, 900, 0), 1800 + 1800 - 4 * 483);
        due(6, "light", x.ray(0, 0, 450, 2), 202500);
        due(6, "out", x.ray(0, 0, 450, 3), 182757);
        due(6, "lost", x.ray(0, 0, 450, 4), 19743);
        x.rule(2, 0);
        due(6, "out without shine", x.ray(0, 0, 450, 3), 202500);
        due(6, "lost at a mirror", x.ray(1, 0, 450, 4), 202500);
        x.rule(2, 100);
        due(6, "all thrown back", x.ray(3, 0, 450, 3), 0);
        SunRings u = unbending();
        u.rule(1, -100);
        due(6, "below 0", u.ray(5, 0, 900, 0), -500);
        due(6, "below 0, from the sun", u.ray(5, 0, 900, 1), 500);
        due(6, "mirrors 6", x.ray(6, 0, 0, 0), -100000);
        due(6, "mirrors -1", x.ray(-1, 0, 0, 0), -100000);
        due(6, "colour 4", x.ray(0, 4, 0, 0), -100000);
        due(6, "i 901", x.ray(0, 0, 901, 0), -100000);
        due(6, "what 5", x.ray(0, 0, 0, 5), -100000);
        due(6, "what -1", x.ray(0, 0, 0, -1), -100000);
    }

    private static void map() {
        SunRings x = new SunRings();
        x.rule(2, 0);
        long sum = 0;
        for (int degree = 0; degree <= 180; degree++) {
            sum += x.map(0, 2, degree);
        }
        due(7, "all light", sum, 24299250);
        SunRings u = unbending();
        u.rule(2, 0);
        due(7, "all ahead", u.map(0, 0, 0), 24299250);
        due(7, "none else", u.map(0, 0, 1), 0);
        u.rule(2, 50);
        due(7, "one ray, 1790 from the sun", u.map(1, 0, 179), u.ray(1, 0, 5, 3));
        due(7, "no light in i = 0", u.map(1, 0, 180), 0);
        due(7, "degree 181", x.map(0, 0, 181), -1);
        due(7, "degree -1", x.map(0, 0, -1), -1);
        due(7, "mirrors 6", x.map(6, 0, 0), -1);
        due(7, "colour 4", x.map(0, 4, 0), -1);
    }

    private static void bow() {
        SunRings x = new SunRings();
        due(8, "top 0", x.bow(1, 0, 420, 2), 0);
        due(8, "no top", x.bow(1, 0, 421, 2), -100000);
        SunRings u = unbending();
        due(8, "at 0", u.bow(0, 0, 900, 0), 0);
        due(8, "one degree", u.bow(0, 0, 900, 1), 1);
        due(8, "top", u.bow(0, 0, 900, 2), 900);
        u.rule(2, 50);
        due(8, "at 90", u.bow(1, 0, 0, 0), 90);
        due(8, "broad", u.bow(1, 0, 0, 1), 127);
        u.rule(2, 0);
        due(8, "none", u.bow(1, 0, 0, 0), SunRings.NONE);
        halves();
        due(8, "none broad", u.bow(1, 0, 0, 1), SunRings.NONE);
        due(8, "none, top", u.bow(1, 0, 0, 2), -100000);
        due(8, "h 901", x.bow(1, 0, 901, 0), -1000000);
        due(8, "h -1", x.bow(1, 0, -1, 0), -1000000);
        due(8, "mirrors 6", x.bow(6, 0, 0, 0), -1000000);
        due(8, "colour 4", x.bow(1, 4, 0, 0), -1000000);
        due(8, "what 3", x.bow(1, 0, 0, 3), -1000000);
        due(8, "what -1", x.bow(1, 0, 0, -1), -1000000);
    }

    private static void halves() {
        SunRings x = new SunRings();
        x.rule(1, 100);
        due(8, "faint", x.map(4, 0, 108), 2);
        due(8, "half of it ahead", x.map(4, 0, 107), 1);
        due(8, "half counts", x.bow(4, 0, 0, 1), 2);
        due(8, "top of a far bow", x.bow(4, 0, 0, 2), 720);
        for (int k = 1; k < 10; k++) {
            x.table(0, k, 50 * k);
        }
        x.rule(1, 0);
        x.rule(2, 50);
        due(8, "all rays at 179 and 180", x.bow(1, 0, 0, 1), 2);
        due(8, "the brighter of two", x.bow(1, 0, 0, 0), 179);
        due(7, "degree 180 has light", x.map(1, 0, 180) > 0 ? 1 : 0, 1);
    }

    private static void dark() {
        SunRings x = new SunRings();
        due(9, "between bows 1 and 2", x.dark(1, 2), 6);
        due(9, "either way", x.dark(2, 1), 6);
        due(9, "the same", x.dark(3, 3), SunRings.BAD);
        due(9, "a 6", x.dark(6, 1), SunRings.BAD);
        due(9, "b -1", x.dark(1, -1), SunRings.BAD);
        SunRings u = unbending();
        u.rule(2, 50);
        due(9, "light all the way", u.dark(0, 1), 0);
        u.rule(2, 0);
        due(9, "no bow", u.dark(0, 1), SunRings.NO);
        due(9, "BAD ahead of NO", u.dark(1, 1), SunRings.BAD);
    }

    private static void wedges() {
        SunRings x = new SunRings();
        due(10, "least", x.wedge(2, 200), 1);
        due(10, "most", x.wedge(2, 1200), 2);
        due(10, "too small", x.wedge(2, 199), SunRings.BAD);
        due(10, "too big", x.wedge(2, 1201), SunRings.BAD);
        due(10, "kind 4", x.wedge(4, 600), SunRings.BAD);
        due(10, "kind -1", x.wedge(-1, 600), SunRings.BAD);
        due(10, "other kind", x.wedge(1, 200), 1);
        due(10, "third", x.wedge(2, 600), 3);
        due(10, "full", x.wedge(2, 601), SunRings.FULL);
        due(10, "NO ahead of FULL", x.wedge(2, 600), SunRings.NO);
        due(11, "three were", x.noWedges(2), 3);
        due(11, "none were", x.noWedges(2), 0);
        due(11, "kind 4", x.noWedges(4), SunRings.BAD);
        due(11, "kind -1", x.noWedges(-1), SunRings.BAD);
        due(11, "the other stays", x.count(0), 1);
        due(11, "again from 1", x.wedge(2, 900), 1);
    }

    private static void turned() {
        SunRings x = new SunRings();
        due(12, "ordinary", x.turned(900, 0, 682), 464);
        due(12, "no outside", x.turned(600, 0, 0), -10000);
        due(12, "s below 0", x.turned(200, 0, 900), -10000);
        due(12, "s 0", x.turned(200, 0, 268), 68);
        due(12, "just out", x.turned(996, 0, 900), 804);
        due(12, "just not", x.turned(997, 0, 900), -10000);
        due(12, "colour shuts it", x.turned(996, 1, 900), -10000);
        due(12, "w 199", x.turned(199, 0, 0), -100000);
        due(12, "w 1201", x.turned(1201, 0, 0), -100000);
        due(12, "colour 4", x.turned(600, 4, 0), -100000);
        due(12, "i -1", x.turned(600, 0, -1), -100000);
    }

    private static void ring() {
        SunRings x = new SunRings();
        due(13, "600", x.ring(600, 0), 219);
        due(13, "only the last", x.ring(996, 0), 804);
        due(13, "none", x.ring(997, 0), -10000);
        due(13, "w 199", x.ring(199, 0), -100000);
        due(13, "w 1201", x.ring(1201, 0), -100000);
        due(13, "colour 4", x.ring(600, 4), -100000);
        due(13, "colour -1", x.ring(600, -1), -100000);
        for (int k = 1; k < 9; k++) {
            x.table(1, k, 0);
        }
        x.table(1, 9, 100);
        due(13, "another table", x.ring(200, 0), 1600);
        for (int k = 9; k >= 1; k--) {
            x.table(1, k, 100 * k);
        }
        due(13, "no bending", x.ring(600, 0), 0);
        due(13, "no bending, beyond 900", x.ring(1200, 0), 0);
        x.table(1, 1, 0);
        due(13, "flat at first", x.ring(200, 0), 0);
    }

    private static void light() {
        SunRings x = ice();
        x.wedge(0, 1200);
        x.wedge(0, 900);
        due(14, "rings", x.light(0, 900, -1, 0), 2);
        due(14, "second ring", x.light(0, 900, 1, 2), 464);
        due(14, "ring's side", x.light(0, 900, 1, 1), 0);
        due(14, "no third", x.light(0, 900, 2, 2), SunRings.NONE);
        due(14, "spots", x.light(1, 600, -1, 0), 3);
        due(14, "spot", x.light(1, 600, 1, 3), 464 + 464 * 600 / 3000);
        due(14, "too high for spots", x.light(1, 601, -1, 0), 1);
        due(14, "behind", x.light(1, 601, 0, 2), 1200);
        due(14, "arcs and behind", x.light(2, 464, -1, 0), 4);
        due(14, "h just below d", x.light(2, 463, -1, 0), 3);
        due(14, "both above", x.light(2, 218, -1, 0), 3);
        int[][] arcs = {{1, 2, 219, 219}, {1, 3, 219, 219}, {1, 3, 464, 464}, {2, 1, 1800, 1800}};
        for (int i = 0; i < 4; i++) {
            for (int what = 0; what < 4; what++) {
                due(14, "arc " + i, x.light(2, 500, i, what), arcs[i][what]);
            }
        }
        due(14, "swaying", x.light(3, 300, 0, 2), 219);
        due(14, "swaying to", x.light(3, 300, 0, 3), 240 + 60);
        due(14, "circle", x.light(3, 601, 0, 0), 3);
        int[] circle = {3, 1, 0, 1800};
        for (int what = 0; what < 4; what++) {
            due(14, "circle without wedges", x.light(15, 900, 0, what), circle[what]);
        }
        due(14, "no lights", x.light(14, 900, -1, 0), 0);
        due(14, "far i", x.light(0, 0, HIGH, 0), SunRings.NONE);
        due(14, "i -2", x.light(0, 0, -2, 0), SunRings.BAD);
        due(14, "what 4", x.light(0, 0, 0, 4), SunRings.BAD);
        due(14, "what 4 behind the last", x.light(0, 0, 9, 4), SunRings.BAD);
        due(14, "what -1", x.light(0, 0, 0, -1), SunRings.BAD);
        due(14, "h 901", x.light(0, 901, 0, 0), SunRings.BAD);
        due(14, "cause -1", x.light(-1, 0, 0, 0), SunRings.BAD);
    }

    /** A ring at 1600, whose spots go past 1800. */
    private static void lightFar() {
        SunRings x = new SunRings();
        x.wedge(1, 200);
        due(14, "before", x.light(4, 0, 0, 2), x.ring(200, 0));
        for (int k = 1; k < 9; k++) {
            x.table(1, k, 0);
        }
        x.table(1, 9, 100);
        due(14, "by the new table", x.light(4, 0, 0, 2), 1600);
        due(14, "at 1800", x.light(5, 376, 0, 2), 1800);
        due(14, "beyond 1800", x.light(5, 377, -1, 0), 0);
        due(14, "sway goes beyond", x.light(7, 376, 0, 3), 1860);
        due(14, "only the circle", x.light(7, 377, -1, 0), 1);
        due(14, "no arcs", x.light(6, 900, -1, 0), 0);
        x.rule(3, 9000);
        due(14, "another skew", x.light(5, 377, 0, 2), 1600 + 1600 * 377 / 9000);
    }

    private static void marks() {
        SunRings x = new SunRings();
        due(15, "least", x.mark(-1, -1, 0, 0), 1);
        due(15, "most", x.mark(3, 3, 1800, 200), 2);
        due(15, "form 4", x.mark(4, 0, 0, 0), SunRings.BAD);
        due(15, "form -2", x.mark(-2, 0, 0, 0), SunRings.BAD);
        due(15, "side 4", x.mark(0, 4, 0, 0), SunRings.BAD);
        due(15, "side -2", x.mark(0, -2, 0, 0), SunRings.BAD);
        due(15, "angle 1801", x.mark(0, 0, 1801, 0), SunRings.BAD);
        due(15, "angle -1", x.mark(0, 0, -1, 0), SunRings.BAD);
        due(15, "doubt 201", x.mark(0, 0, 0, 201), SunRings.BAD);
        due(15, "doubt -1", x.mark(0, 0, 0, -1), SunRings.BAD);
        for (int n = 3; n <= 12; n++) {
            due(15, "mark " + n, x.mark(0, 0, 10, 0), n);
        }
        due(15, "full", x.mark(0, 0, 10, 0), SunRings.FULL);
        due(15, "BAD ahead of FULL", x.mark(4, 0, 10, 0), SunRings.BAD);
        due(16, "twelve were", x.wipe(), 12);
        due(16, "none were", x.wipe(), 0);
        due(16, "from 1", x.mark(0, 0, 10, 0), 1);
    }

    private static void explains() {
        SunRings x = ice();
        due(17, "nothing to explain", x.explains(0, 0), 1);
        x.mark(0, 0, 224, 5);
        due(17, "at the doubt", x.explains(1, 0), 1);
        due(17, "by none", x.explains(0, 0), 0);
        due(17, "by another", x.explains(65534, 0), 0);
        x.wipe();
        x.mark(0, 0, 225, 5);
        due(17, "past the doubt", x.explains(65535, 0), 0);
        x.wipe();
        x.mark(-1, -1, 214, 5);
        due(17, "below, unclear", x.explains(2, 0), 1);
        x.mark(1, 2, 219, 0);
        due(17, "only one met", x.explains(2, 0), 0);
        due(17, "both met", x.explains(6, 0), 1);
        due(17, "the sun too high", x.explains(6, 682), 0);
        x.wipe();
        x.mark(1, 1, 219, 0);
        due(17, "another side", x.explains(65535, 0), 0);
        due(17, "set -1", x.explains(-1, 0), SunRings.BAD);
        due(17, "set 65536", x.explains(65536, 0), SunRings.BAD);
        due(17, "h -1", x.explains(1, -1), SunRings.BAD);
        due(17, "h 901", x.explains(1, 901), SunRings.BAD);
    }

    private static void fewest() {
        SunRings x = new SunRings();
        due(18, "no marks", x.fewest(0), 0);
        x.wedge(2, 600);
        x.wedge(3, 600);
        x.mark(0, 0, 219, 0);
        due(18, "the lower of two", x.fewest(0), 1 << 8);
        x.wedge(3, 900);
        x.mark(0, 0, 464, 0);
        due(18, "one, not two", x.fewest(0), 1 << 12);
        x.mark(2, 1, 1200, 0);
        due(18, "least bits for the second", x.fewest(0), 1 << 12 | 1 << 9);
        x.mark(2, 1, 1800, 0);
        due(18, "three", x.fewest(0), 1 << 14 | 1 << 12 | 1 << 9);
        x.mark(3, 0, 0, 200);
        due(18, "never to be met", x.fewest(0), SunRings.NONE);
        due(18, "h 901", x.fewest(901), SunRings.BAD);
        due(18, "h -1", x.fewest(-1), SunRings.BAD);
    }

    private static void owed() {
        SunRings x = ice();
        due(19, "no cause", x.owed(0, 0), 0);
        due(19, "all lights", x.owed(15, 0), 1 + 2 + 1 + 2);
        due(19, "circles of all kinds", x.owed(65535, 0), 6 + 3);
        x.mark(-1, -1, 219, 0);
        due(19, "but those that meet", x.owed(15, 0), 1);
        due(19, "h 300", x.owed(15, 300), 2);
        x.wipe();
        x.mark(-1, -1, 1200, 0);
        due(19, "h 300, another mark", x.owed(15, 300), 1 + 1 + 2 + 1);
        due(19, "set 65536", x.owed(65536, 0), SunRings.BAD);
        due(19, "set -1", x.owed(-1, 0), SunRings.BAD);
        due(19, "h 901", x.owed(1, 901), SunRings.BAD);
    }

    private static void never() {
        SunRings x = ice();
        due(20, "no marks", x.never(), 0);
        x.mark(2, 1, 322, 0);
        x.mark(2, 1, 323, 0);
        x.mark(2, 1, 218, 0);
        x.mark(2, 1, 219, 0);
        x.mark(1, 3, 219, 0);
        x.mark(0, 2, 219, 200);
        x.mark(3, -1, 1800, 0);
        due(20, "out of reach", x.never(), 2 | 4 | 32);
        x.noWedges(0);
        due(20, "without ice", x.never(), 63);
        x.wedge(3, 600);
        x.rule(4, 0);
        due(20, "without sway", x.never(), 1 | 2 | 4 | 32);
        neverButAtTheTop();
    }

    /** A ring at 900: its arc below is there with the sun at 900 alone, its arc above with the sun at 0. */
    private static void neverButAtTheTop() {
        SunRings x = new SunRings();
        for (int k = 1; k < 9; k++) {
            x.table(1, k, 0);
        }
        x.table(1, 9, 450);
        x.wedge(1, 900);
        x.mark(1, 3, 900, 0);
        x.mark(1, 2, 900, 0);
        due(20, "at 900 and at 0", x.never(), 0);
        due(21, "never both", x.heights(65535, -1), 0);
        due(14, "arc above, h and d 900 together", x.light(6, 0, 0, 1), 2);
        due(14, "arc below, h is d", x.light(6, 900, 0, 1), 3);
    }

    private static void heights() {
        SunRings x = ice();
        due(21, "all heights", x.heights(0, -1), 19);
        due(21, "the last", x.heights(0, 18), 900);
        due(21, "behind the last", x.heights(0, 19), SunRings.NONE);
        x.mark(1, 3, 219, 0);
        due(21, "h is d at least", x.heights(4, -1), 14);
        due(21, "the first", x.heights(4, 0), 250);
        due(21, "the second", x.heights(4, 1), 300);
        due(21, "by another", x.heights(1, -1), 0);
        due(21, "none", x.heights(1, 0), SunRings.NONE);
        due(21, "far i", x.heights(4, HIGH), SunRings.NONE);
        due(21, "i -2", x.heights(4, -2), SunRings.BAD);
        due(21, "set -1", x.heights(-1, 0), SunRings.BAD);
        due(21, "set 65536", x.heights(65536, -1), SunRings.BAD);
    }

    private static void cut() {
        SunRings x = new SunRings();
        due(22, "first place", x.cut(0, 1), -1);
        due(22, "was 1", x.cut(0, 0), 1);
        due(22, "was 0", x.cut(0, -1), 0);
        due(22, "last place", x.cut(11, 0), -1);
        due(22, "place 12", x.cut(12, 0), -100);
        due(22, "place -1", x.cut(-1, 0), -100);
        due(22, "v 2", x.cut(11, 2), -100);
        due(22, "v -2", x.cut(11, -2), -100);
        due(22, "unchanged", x.cut(11, 1), 0);
    }

    /** With the sun at 0, cause 1 meets places 1 and 8, cause 3 places 1 and 2. */
    private static void made() {
        SunRings x = ice();
        due(23, "nothing told", x.made(0, 0), 1);
        x.cut(1, 1);
        due(23, "a sun, no cause", x.made(0, 0), 0);
        due(23, "lying", x.made(2, 0), 1);
        due(23, "a ring is no spot", x.made(1, 0), 0);
        due(23, "a circle is no spot", x.made(1 << 15, 0), 0);
        x.cut(8, 0);
        due(23, "a spot where none was", x.made(2, 0), 0);
        due(23, "swaying", x.made(8, 0), 1);
        due(23, "both", x.made(10, 0), 0);
        x.cut(2, 1);
        due(23, "its far end", x.made(8, 0), 1);
        x.cut(3, 1);
        due(23, "out of reach", x.made(65535, 0), 0);
        due(23, "set -1", x.made(-1, 0), SunRings.BAD);
        due(23, "set 65536", x.made(65536, 0), SunRings.BAD);
        due(23, "h 901", x.made(1, 901), SunRings.BAD);
    }

    private static void maker() {
        SunRings x = ice();
        due(24, "nothing told", x.maker(0), 1);
        x.cut(1, 1);
        due(24, "one", x.maker(0), 2);
        x.cut(2, 1);
        due(24, "another", x.maker(0), 8);
        x.cut(8, 1);
        due(24, "two", x.maker(0), 10);
        x.wedge(2, 900);
        x.cut(3, 1);
        due(24, "three would", x.made(2 | 8 | 1 << 9, 0), 1);
        due(24, "by two: no", x.maker(0), SunRings.NONE);
        x.cut(8, -1);
        due(24, "two of two kinds", x.maker(0), 8 | 1 << 9);
        due(24, "h 901", x.maker(901), SunRings.BAD);
        due(24, "h -1", x.maker(-1), SunRings.BAD);
    }

    private static void day() {
        SunRings x = new SunRings();
        due(25, "least", x.day(-60, 0, 0), 1);
        due(25, "most", x.day(40, 3, 65535), 2);
        due(25, "cold -61", x.day(-61, 0, 0), SunRings.BAD);
        due(25, "cold 41", x.day(41, 0, 0), SunRings.BAD);
        due(25, "cloud 4", x.day(0, 4, 0), SunRings.BAD);
        due(25, "cloud -1", x.day(0, -1, 0), SunRings.BAD);
        due(25, "causes -1", x.day(0, 0, -1), SunRings.BAD);
        due(25, "causes 65536", x.day(0, 0, 65536), SunRings.BAD);
        for (int n = 3; n <= 60; n++) {
            due(25, "day " + n, x.day(0, 0, 0), n);
        }
        due(25, "full", x.day(0, 0, 0), SunRings.FULL);
        due(25, "BAD ahead of FULL", x.day(0, 4, 0), SunRings.BAD);
        due(30, "causes of 60 days", x.count(5), 16);
        due(26, "1 by 60", x.odds(3, -60, 40, -1, 1), 60);
    }

    private static void odds() {
        SunRings x = new SunRings();
        due(26, "no days", x.odds(0, -60, 40, -1, 1), SunRings.NONE);
        for (int n = 0; n < 12; n++) {
            x.day(-20 + n, n % 2, n < 8 ? 1 : 2);
        }
        due(26, "8 by 12 above", x.odds(0, -60, 40, -1, 0), 2);
        due(26, "8 by 12 below", x.odds(0, -60, 40, -1, 1), 3);
        due(26, "from a to b", x.odds(0, -13, -12, -1, 0), 1);
        due(26, "from a to b, below", x.odds(0, -13, -12, -1, 1), 2);
        due(26, "one day", x.odds(0, -20, -20, 0, 1), 1);
        due(26, "cloud", x.odds(1, -60, 40, 1, 1), 3);
        due(26, "no such cloud", x.odds(1, -60, 40, 2, 1), SunRings.NONE);
        due(26, "none has it", x.odds(7, -60, 40, 1, 0), 0);
        due(26, "none has it, below", x.odds(7, -60, 40, 1, 1), 1);
        due(26, "all have it", x.odds(1, -12, -9, -1, 1), 1);
        due(26, "a above b", x.odds(0, 1, 0, -1, 0), SunRings.BAD);
        due(26, "a -61", x.odds(0, -61, 0, -1, 0), SunRings.BAD);
        due(26, "b 41", x.odds(0, 0, 41, -1, 0), SunRings.BAD);
        due(26, "cloud 4", x.odds(0, -60, 40, 4, 0), SunRings.BAD);
        due(26, "cloud -2", x.odds(0, -60, 40, -2, 0), SunRings.BAD);
        due(26, "part 2", x.odds(0, -60, 40, -1, 2), SunRings.BAD);
        due(26, "cause 16", x.odds(16, -60, 40, -1, 0), SunRings.BAD);
        due(26, "cause -1", x.odds(-1, -60, 40, -1, 0), SunRings.BAD);
    }

    private static void together() {
        SunRings x = new SunRings();
        x.day(0, 0, 1 | 1 << 15);
        x.day(0, 1, 1 | 2 | 1 << 15);
        x.day(0, 2, 2);
        due(27, "two days", x.together(0, 15), 2);
        due(27, "either way", x.together(15, 0), 2);
        due(27, "one day", x.together(1, 15), 1);
        due(27, "none", x.together(3, 15), 0);
        due(27, "the same", x.together(2, 2), SunRings.BAD);
        due(27, "16", x.together(16, 0), SunRings.BAD);
        due(27, "-1", x.together(0, -1), SunRings.BAD);
    }

    private static void keep() {
        SunRings x = new SunRings();
        due(29, "nothing kept", x.back(), SunRings.NO);
        for (int n = 1; n <= 3; n++) {
            x.rule(4, n);
            due(28, "keep " + n, x.keep(), n);
        }
        due(28, "full", x.keep(), SunRings.FULL);
        x.rule(4, 100);
        for (int n = 3; n >= 1; n--) {
            due(29, "back " + n, x.back(), n - 1);
            due(29, "as kept " + n, x.rule(4, 200), n);
        }
        due(29, "no more", x.back(), SunRings.NO);
        due(28, "again", x.keep(), 1);
    }

    private static void keptParts() {
        SunRings x = ice();
        due(28, "keep", x.keep(), 1);
        due(28, "ring", x.light(0, 0, 0, 2), 219);
        int[] rules = {4, 0, 5, 3000, 60};
        for (int what = 0; what < 5; what++) {
            x.rule(what, rules[what] == 3000 ? 600 : 9);
        }
        for (int sort = 0; sort < 3; sort++) {
            x.table(sort, 5, 350 - 40 * sort);
        }
        x.wedge(0, 900);
        x.wedge(3, 700);
        x.mark(0, 0, 1, 1);
        x.cut(3, 1);
        x.day(0, 0, 1);
        due(28, "changed", x.light(0, 0, 0, 2) != 219 ? 1 : 0, 1);
        due(29, "back", x.back(), 0);
        for (int what = 0; what < 5; what++) {
            due(29, "rule " + what, x.rule(what, rules[what]), rules[what]);
        }
        int[] fives = {352, 358, 307};
        for (int sort = 0; sort < 3; sort++) {
            due(29, "table " + sort, x.inside(sort, 0, 500), fives[sort]);
        }
        due(29, "wedges", x.count(0), 1);
        due(29, "ring", x.light(0, 0, 0, 2), 219);
        due(29, "one ring", x.light(0, 0, -1, 2), 1);
        due(29, "marks stay", x.count(1), 1);
        due(29, "days stay", x.count(2), 1);
        due(29, "the cut stays", x.cut(3, -1), 1);
    }

    private static void count() {
        SunRings x = ice();
        x.wedge(3, 600);
        x.mark(0, 0, 1, 1);
        x.mark(0, 0, 1, 1);
        x.day(0, 0, 5);
        x.day(0, 0, 12);
        x.day(0, 0, 0);
        x.keep();
        x.cut(0, 0);
        x.cut(5, 1);
        x.cut(6, 1);
        x.cut(6, -1);
        int[] all = {2, 2, 3, 1, 2, 3};
        for (int what = 0; what < 6; what++) {
            due(30, "count " + what, x.count(what), all[what]);
        }
        due(30, "6", x.count(6), SunRings.BAD);
        due(30, "-1", x.count(-1), SunRings.BAD);
    }
}
