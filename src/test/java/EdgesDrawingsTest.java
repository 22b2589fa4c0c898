/** The edges of MARKS and of what EXPLAINS them, and of THE CUT (promises 15 to 24), sentence by sentence. */
public final class EdgesDrawingsTest {
    private static final int[] WRONG_SETS = {-1, 65536, Edges.LOW, Edges.HIGH};
    private static final int[] WRONG_HEIGHTS = {-1, 901, Edges.LOW, Edges.HIGH};
    private static Edges e;

    public static void main(String[] args) throws Exception {
        e = new Edges("EdgesDrawingsTest");
        markNumbers();
        marksTwelve();
        wipe();
        meetsForm();
        meetsSide();
        meetsAngle();
        meetsFromTo();
        explainsEach();
        setsAndHeights();
        fewestNothing();
        fewestLeastBits();
        fewestNotLeastBits();
        fewestTwelve();
        fewestNone();
        owedNothing();
        owedOnceACause();
        neverHeights();
        neverBits();
        neverNothing();
        heights();
        heightsNumbers();
        cutNumbers();
        cutFirst();
        madeNothingTold();
        madeDoubt();
        madeNoPlaceToldNought();
        madeBySpotsBesideAlone();
        madePlaces();
        makerOneOrTwo();
        makerFirstByBits();
        makerNone();
        e.end();
    }

    /** Kind 0 with the wedge of 600: a ring at 219; arcs at 219; spots at 219 (h 0) and 1200; swaying 219 to 279. */
    private static SunRings ice() {
        SunRings x = new SunRings();
        x.wedge(0, 600);
        return x;
    }

    /** 1 if the set explains this one mark alone. */
    private static void meets(SunRings x, int set, int h, int[] mark, int want) {
        x.wipe();
        x.mark(mark[0], mark[1], mark[2], mark[3]);
        e.due("mark " + java.util.Arrays.toString(mark) + " by " + set + " at " + h, x.explains(set, h), want);
    }

    private static int[] mark(int form, int side, int angle, int doubt) {
        return new int[] {form, side, angle, doubt};
    }

    private static void markNumbers() {
        e.says("a form (0 to 3, or -1: unclear), a side (0 to 3, or -1), an angle (0 to 1800) and a doubt (0 to 200)");
        SunRings x = new SunRings();
        int[] least = {-1, -1, 0, 0}, most = {3, 3, 1800, 200};
        for (int part = 0; part < 4; part++) {
            for (int v : new int[] {least[part] - 1, most[part] + 1, Edges.LOW, Edges.HIGH}) {
                int[] m = {0, 0, 100, 10};
                m[part] = v;
                e.due("part " + part + " is " + v, x.mark(m[0], m[1], m[2], m[3]), SunRings.BAD);
            }
            e.due("none was taken", x.count(1), 2 * part);
            int[] low = {0, 0, 100, 10}, high = {0, 0, 100, 10};
            low[part] = least[part];
            high[part] = most[part];
            e.due("least of part " + part, x.mark(low[0], low[1], low[2], low[3]), 2 * part + 1);
            e.due("most of part " + part, x.mark(high[0], high[1], high[2], high[3]), 2 * part + 2);
        }
    }

    private static void marksTwelve() {
        e.says("A DRAWING has MARKS, 12 at most");
        SunRings x = new SunRings();
        for (int n = 1; n <= 12; n++) {
            e.due("mark " + n, x.mark(3, 1, 100 * n, 0), n);
        }
        e.due("the 13th", x.mark(3, 1, 100, 0), SunRings.FULL);
        e.due("the 13th, never met", x.mark(3, 0, 100, 0), SunRings.FULL);
        e.due("still twelve", x.count(1), 12);
        e.due("all are met", x.never(), 0);
        e.due("by a circle", x.explains(8, 0), 1);
        e.says("A MARK: how many. BAD; FULL.");
        e.due("BAD is ahead of FULL", x.mark(4, 1, 100, 0), SunRings.BAD);
    }

    private static void wipe() {
        e.says("No MARKS: how many were.");
        SunRings x = new SunRings();
        e.due("none", x.wipe(), 0);
        for (int n = 0; n < 12; n++) {
            x.mark(3, 0, 0, 0);
        }
        e.due("twelve", x.wipe(), 12);
        e.due("none again", x.wipe(), 0);
        e.due("nothing left", x.count(1), 0);
        e.due("nothing never met", x.never(), 0);
        e.due("room again", x.mark(3, 1, 0, 0), 1);
        e.due("of the old ones nothing", x.explains(8, 0), 1);
    }

    private static void meetsForm() {
        e.says("A LIGHT MEETS it, if form and side are alike (or unclear)");
        SunRings x = ice();
        int[][] lights = {{1, 0, 0, 219}, {2, 2, 1, 219}, {4, 1, 2, 219}, {8, 3, 1, 1000}};
        for (int[] l : lights) {
            for (int form = -1; form <= 3; form++) {
                int want = form == -1 || form == l[1] ? 1 : 0;
                meets(x, l[0], 0, mark(form, l[2], l[3], 0), want);
                meets(x, l[0], 0, mark(form, -1, l[3], 0), want);
            }
        }
    }

    private static void meetsSide() {
        e.says("A LIGHT MEETS it, if form and side are alike (or unclear)");
        SunRings x = ice();
        int[][] lights = {{1, 0, 0, 0}, {2, 2, 1, 0}, {4, 1, 2, 0}, {4, 1, 3, 900}};
        for (int[] l : lights) {
            for (int side = -1; side <= 3; side++) {
                int want = side == -1 || side == l[2] ? 1 : 0;
                meets(x, l[0], l[3], mark(l[1], side, 219, 0), want);
                meets(x, l[0], l[3], mark(-1, side, 219, 0), want);
            }
        }
    }

    private static void meetsAngle() {
        e.says("the angle is from (its least less doubt) to (its most and doubt)");
        SunRings x = ice();
        for (int doubt : new int[] {0, 1, 75, 200}) {
            meets(x, 1, 0, mark(0, 0, 219 - doubt, doubt), 1);
            meets(x, 1, 0, mark(0, 0, 219 - doubt - 1, doubt), 0);
            meets(x, 1, 0, mark(0, 0, 219 + doubt, doubt), 1);
            meets(x, 1, 0, mark(0, 0, 219 + doubt + 1, doubt), 0);
        }
    }

    private static void meetsFromTo() {
        e.says("the angle is from (its least less doubt) to (its most and doubt)");
        SunRings x = ice();
        // Swaying, with the sun at 300, from 219 to 300.
        meets(x, 8, 300, mark(2, 1, 214, 5), 1);
        meets(x, 8, 300, mark(2, 1, 213, 5), 0);
        meets(x, 8, 300, mark(2, 1, 260, 0), 1);
        meets(x, 8, 300, mark(2, 1, 305, 5), 1);
        meets(x, 8, 300, mark(2, 1, 306, 5), 0);
        // The circle is all round from 0 to 1800; a doubt reaches below 0 and beyond 1800, where no mark is.
        meets(x, 8, 300, mark(3, 1, 0, 0), 1);
        meets(x, 8, 300, mark(3, 1, 1800, 0), 1);
        meets(x, 8, 300, mark(3, 1, 0, 200), 1);
        meets(x, 8, 300, mark(3, 1, 1800, 200), 1);
    }

    private static void explainsEach() {
        e.says("A set of CAUSES EXPLAINS at h, if each MARK is met by a LIGHT of one of them.");
        SunRings x = ice();
        e.due("no marks, no causes", x.explains(0, 0), 1);
        e.due("no marks, all causes", x.explains(65535, 900), 1);
        x.mark(0, 0, 219, 0);
        e.due("a mark, no causes", x.explains(0, 0), 0);
        e.due("a mark, its cause", x.explains(1, 0), 1);
        x.mark(1, 2, 219, 0);
        e.due("the second is not met", x.explains(1, 0), 0);
        e.due("the first is not met", x.explains(4, 0), 0);
        e.due("each by one", x.explains(5, 0), 1);
        e.due("and others", x.explains(65535, 0), 1);
        e.due("all but one", x.explains(65535 - 4, 0), 0);
        for (int n = 3; n <= 11; n++) {
            x.mark(0, 0, 219, 0);
        }
        x.mark(2, 1, 1200, 0);
        e.due("the twelfth is not met", x.explains(5, 0), 0);
        e.due("the twelfth is met", x.explains(7, 0), 1);
        SunRings last = new SunRings();
        last.wedge(3, 600);
        last.mark(3, 1, 900, 0);
        e.due("bit 15", last.explains(32768, 0), 1);
        e.due("bit 14", last.explains(16384, 0), 0);
    }

    private static void setsAndHeights() {
        SunRings x = ice();
        x.cut(0, 0);
        for (int n = 0; n < 4; n++) {
            int set = WRONG_SETS[n], h = WRONG_HEIGHTS[n];
            e.says("1: a set of CAUSES (bits 0 to 15) EXPLAINS at h; 0. BAD.");
            e.due("explains " + set, x.explains(set, 0), SunRings.BAD);
            e.due("explains at " + h, x.explains(1, h), SunRings.BAD);
            e.says("THE FEWEST at h as bits. NONE; BAD.");
            e.due("fewest at " + h, x.fewest(h), SunRings.BAD);
            e.says("OWED by a set at h: how many. BAD.");
            e.due("owed " + set, x.owed(set, 0), SunRings.BAD);
            e.due("owed at " + h, x.owed(1, h), SunRings.BAD);
            e.says("THE HEIGHTS of a set: how many (i = -1), the i-th (NONE). BAD.");
            e.due("heights " + set, x.heights(set, -1), SunRings.BAD);
            e.due("heights " + set + ", the first", x.heights(set, 0), SunRings.BAD);
            e.says("1: THE CUT is MADE by a set at h; 0. BAD.");
            e.due("made " + set, x.made(set, 0), SunRings.BAD);
            e.due("made at " + h, x.made(1, h), SunRings.BAD);
            e.says("that MAKES THE CUT at h. NONE; BAD.");
            e.due("maker at " + h, x.maker(h), SunRings.BAD);
        }
        e.says("1: a set of CAUSES (bits 0 to 15)");
        for (int h = 0; h <= 900; h += 900) {
            e.due("explains at " + h, x.explains(65535, h), 1);
            e.due("fewest at " + h, x.fewest(h), 0);
            e.due("owed at " + h, x.owed(1, h), 1);
            e.due("made at " + h, x.made(65535, h), 1);
            e.due("maker at " + h, x.maker(h), 1);
        }
    }

    private static void fewestNothing() {
        e.says("THE FEWEST at h: that set of fewest CAUSES");
        SunRings x = new SunRings();
        e.due("no marks, no ice", x.fewest(0), 0);
        x.wedge(0, 600);
        e.due("no marks", x.fewest(900), 0);
        x.mark(0, 0, 219, 0);
        e.due("one", x.fewest(0), 1);
        x.wipe();
        e.due("no marks again", x.fewest(0), 0);
    }

    private static void fewestLeastBits() {
        e.says("of several the least bits.");
        SunRings x = new SunRings();
        x.mark(3, 1, 900, 0);
        e.due("any circle: 3, 7, 11 or 15", x.fewest(0), 1 << 3);
        x.wipe();
        for (int kind = 3; kind >= 1; kind--) {
            x.wedge(kind, 600);
            x.wipe();
            x.mark(0, 0, 219, 0);
            e.due("rings of kinds from " + kind, x.fewest(0), 1 << 4 * kind);
            x.mark(1, 2, 219, 0);
            e.due("rings and arcs of kinds from " + kind, x.fewest(0), 5 << 4 * kind);
        }
    }

    /** One cause with high bits goes ahead of two with low ones. */
    private static void fewestNotLeastBits() {
        e.says("THE FEWEST at h: that set of fewest CAUSES; of several the least bits.");
        SunRings x = new SunRings();
        x.wedge(0, 600);
        x.wedge(1, 900);
        x.wedge(3, 600);
        x.wedge(3, 900);
        x.mark(0, 0, 219, 0);
        x.mark(0, 0, 464, 0);
        e.due("one of 4096, not two of 17", x.fewest(0), 4096);
        x.mark(1, 2, 219, 0);
        // By two: 12 with 2 or 14; not 0, 4 and 2.
        e.due("two", x.fewest(0), 4096 | 4);
        x.mark(1, 2, 464, 0);
        e.due("two again, 12 and 14", x.fewest(0), 4096 | 16384);
        // Of 8 with 9, 8 with 13, 12 with 9 and 12 with 13.
        SunRings y = new SunRings();
        y.wedge(2, 600);
        y.wedge(3, 600);
        y.mark(0, 0, 219, 0);
        y.mark(2, 1, 1200, 0);
        e.due("8 and 9", y.fewest(0), 256 | 512);
        y.noWedges(2);
        e.due("12 and 13", y.fewest(0), 4096 | 8192);
    }

    private static void fewestTwelve() {
        e.says("THE FEWEST at h: that set of fewest CAUSES; of several the least bits.");
        SunRings x = new SunRings();
        int[] wedges = {600, 700, 800, 500};
        x.rule(4, 0);
        for (int kind = 0; kind < 4; kind++) {
            x.wedge(kind, wedges[kind]);
            int d = x.ring(wedges[kind], 0);
            x.mark(0, 0, d, 0);
            x.mark(2, 1, d, 0);
            x.mark(1, 2, d, 0);
        }
        e.due("twelve marks by twelve causes", x.fewest(0), 0x7777);
        x.wipe();
        for (int kind = 0; kind < 4; kind++) {
            int d = x.ring(wedges[kind], 0);
            x.mark(0, 0, d, 0);
            x.mark(2, -1, d, 0);
            x.mark(1, -1, d, 0);
        }
        // With the sun at 1 the spots of 600 are at 219 too, by LEAN 1 and 3; LEAN 1 has the lower bits.
        e.due("sides unclear", x.fewest(1), 0x7777);
    }

    private static void fewestNone() {
        e.says("THE FEWEST at h as bits. NONE; BAD.");
        SunRings x = ice();
        x.mark(0, 0, 220, 0);
        e.due("beside the ring", x.fewest(0), SunRings.NONE);
        x.wipe();
        x.mark(1, 3, 219, 0);
        e.due("h 218", x.fewest(218), SunRings.NONE);
        e.due("h 219", x.fewest(219), 4);
        x.mark(1, 2, 219, 0);
        e.due("both, h 681", x.fewest(681), 4);
        e.due("both, h 682", x.fewest(682), SunRings.NONE);
        SunRings bare = new SunRings();
        bare.mark(-1, -1, 0, 200);
        e.due("no ice, but circles", bare.fewest(0), 8);
        bare.mark(2, -1, 0, 200);
        e.due("no ice, a spot", bare.fewest(0), SunRings.NONE);
        // Swaying from 219 to 279: the last of all CAUSES alone.
        SunRings last = new SunRings();
        last.wedge(3, 600);
        last.mark(2, 1, 279, 0);
        e.due("CAUSE 15", last.fewest(0), 32768);
        last.wipe();
        last.mark(2, 1, 280, 0);
        e.due("beyond its sway", last.fewest(0), SunRings.NONE);
    }

    private static void owedNothing() {
        e.says("OWED by a set at h: LIGHTS of it (each counted once a CAUSE) that meet no MARK.");
        SunRings x = ice();
        e.due("no causes", x.owed(0, 0), 0);
        e.due("no marks: all lights", x.owed(2, 0), 2);
        e.due("no lights", x.owed(16, 0), 0);
        e.due("a circle", x.owed(32768, 0), 1);
        x.mark(2, 1, 220, 0);
        e.due("one beside the spot", x.owed(2, 0), 2);
        x.mark(2, 1, 220, 1);
        e.due("met", x.owed(2, 0), 1);
        x.mark(2, 1, 1200, 0);
        e.due("both met", x.owed(2, 0), 0);
        x.wipe();
        x.mark(2, 1, 219, 0);
        e.due("met by the only mark", x.owed(2, 0), 1);
        x.wipe();
        for (int n = 0; n < 11; n++) {
            x.mark(0, 0, 1, 0);
        }
        x.mark(2, 1, 1200, 0);
        e.due("met by the twelfth mark", x.owed(2, 0), 1);
        e.due("met by none", x.owed(1, 0), 1);
        e.due("marks that no light meets owe nothing", x.owed(0, 0), 0);
        e.due("too high: the spot behind alone", x.owed(2, 601), 0);
    }

    private static void owedOnceACause() {
        e.says("LIGHTS of it (each counted once a CAUSE) that meet no MARK");
        SunRings x = new SunRings();
        x.wedge(0, 600);
        x.wedge(3, 600);
        e.due("one ring of two causes", x.owed(1 | 4096, 0), 2);
        e.due("all", x.owed(65535, 0), 2 * (1 + 2 + 1 + 2) + 2);
        x.mark(0, 0, 219, 0);
        x.mark(0, 0, 219, 0);
        e.due("met by either", x.owed(1 | 4096, 0), 0);
        // One light of LEAN 2 met, the other not.
        x.mark(1, 2, 219, 0);
        e.due("above met, below not", x.owed(4, 219), 1);
        e.due("above met, below not there", x.owed(4, 218), 0);
        // Two wedges of one cause with rings alike: two lights.
        SunRings un = Edges.unbending(1);
        un.wedge(0, 300);
        un.wedge(0, 400);
        e.due("two like lights of one cause", un.owed(1, 0), 2);
    }

    private static void neverHeights() {
        e.says("NEVER is a MARK met by no CAUSE at any h of 0, 50, 100, .. 900.");
        // The ring is at 1600; with the sun at 350 the spot is at 1786, at 376 at 1800, higher it is not there.
        SunRings x = Edges.bending(1, 0, 0, 0, 0, 0, 0, 0, 0, 100);
        x.wedge(1, 200);
        x.rule(4, 0);
        x.mark(2, 1, 1786, 0);
        x.mark(2, 1, 1787, 0);
        x.mark(2, 1, 1800, 0);
        x.mark(2, 1, 1599, 0);
        x.mark(2, 1, 1600, 0);
        e.due("but the first and the last", x.never(), 2 | 4 | 8);
        x.wipe();
        x.mark(2, 1, 1800, 0);
        e.due("explained at 376", x.explains(32, 376), 1);
        e.due("never all the same", x.never(), 1);
        e.due("at no such height", x.heights(65535, -1), 0);
        // A ring at 900: its arc below with the sun at 900 alone, above with the sun at 0 alone.
        SunRings nine = Edges.bending(1, 0, 0, 0, 0, 0, 0, 0, 0, 450);
        nine.wedge(0, 900);
        nine.mark(1, 2, 900, 0);
        nine.mark(1, 3, 900, 0);
        e.due("at 0 and at 900", nine.never(), 0);
        e.due("never both at once", nine.heights(65535, -1), 0);
    }

    private static void neverBits() {
        e.says("MARKS that are NEVER, as bits.");
        SunRings x = new SunRings();
        for (int n = 0; n < 12; n++) {
            x.mark(n % 3 == 0 ? 3 : 0, 1, 100, 0);
        }
        e.due("all but each third", x.never(), 4095 & ~0x249);
        x.wipe();
        for (int n = 0; n < 12; n++) {
            x.mark(3, n == 0 || n == 11 ? 0 : -1, 100, 0);
        }
        e.due("the first and the twelfth", x.never(), 1 | 2048);
    }

    private static void neverNothing() {
        e.says("MARKS that are NEVER, as bits.");
        SunRings x = new SunRings();
        e.due("no marks", x.never(), 0);
        x.mark(0, 0, 219, 0);
        e.due("no ice", x.never(), 1);
        x.wedge(3, 600);
        e.due("ice of the last kind", x.never(), 0);
        x.noWedges(3);
        e.due("no ice again", x.never(), 1);
        x.wedge(0, 600);
        e.due("ice of the first kind: CAUSE 0 alone has it", x.never(), 0);
        x.wipe();
        x.noWedges(0);
        x.wedge(3, 600);
        x.mark(2, 1, 270, 0);
        e.due("CAUSE 15 alone has it", x.never(), 0);
        x.rule(4, 0);
        e.due("without SWAY with the sun at 700, where no spot is", x.never(), 1);
    }

    private static void heights() {
        e.says("THE HEIGHTS of a set: those of 0, 50, .. 900 at which it EXPLAINS.");
        SunRings x = ice();
        x.mark(1, 2, 219, 0);
        // Above with the sun at 681 at most.
        e.due("0 to 650", x.heights(4, -1), 14);
        for (int i = 0; i < 14; i++) {
            e.due("height " + i, x.heights(4, i), 50 * i);
        }
        e.due("behind the last", x.heights(4, 14), SunRings.NONE);
        x.wipe();
        x.mark(1, 3, 219, 0);
        e.due("250 to 900", x.heights(4, -1), 14);
        e.due("the first", x.heights(4, 0), 250);
        e.due("the last", x.heights(4, 13), 900);
        e.due("behind it", x.heights(4, 14), SunRings.NONE);
        x.wipe();
        x.mark(2, 1, 219, 0);
        e.due("spots, 0 alone", x.heights(2, -1), 1);
        e.due("spots, swaying: 0 to 600", x.heights(8, -1), 13);
        e.due("the last of these", x.heights(8, 12), 600);
        e.due("none, how many", x.heights(1, -1), 0);
        e.due("none, the first", x.heights(1, 0), SunRings.NONE);
        // d is 450: below from the sun at 450 on, above up to it.
        SunRings y = new SunRings();
        y.wedge(0, 889);
        y.mark(1, 3, 450, 0);
        e.due("below, the first", y.heights(4, 0), 450);
        e.due("below, 450 to 900", y.heights(4, -1), 10);
        y.mark(1, 2, 450, 0);
        e.due("both, 450 alone", y.heights(4, -1), 1);
        e.due("both, the only one", y.heights(4, 0), 450);
    }

    private static void heightsNumbers() {
        e.says("THE HEIGHTS of a set: how many (i = -1), the i-th (NONE). BAD.");
        SunRings x = new SunRings();
        e.due("no marks: all", x.heights(0, -1), 19);
        e.due("the first", x.heights(0, 0), 0);
        e.due("the last", x.heights(0, 18), 900);
        e.due("behind it", x.heights(0, 19), SunRings.NONE);
        e.due("far behind it", x.heights(0, Edges.HIGH), SunRings.NONE);
        e.due("-2", x.heights(0, -2), SunRings.BAD);
        e.due("far below", x.heights(0, Edges.LOW), SunRings.BAD);
        e.due("set 65535", x.heights(65535, -1), 19);
        e.due("set 65536", x.heights(65536, -1), SunRings.BAD);
        e.due("set -1", x.heights(-1, 0), SunRings.BAD);
    }

    private static void cutNumbers() {
        e.says("A place of THE CUT: what it was. BAD answers -100.");
        SunRings x = new SunRings();
        for (int place : new int[] {-1, 12, Edges.LOW, Edges.HIGH}) {
            e.due("place " + place, x.cut(place, 1), -100);
        }
        for (int v : new int[] {-2, 2, Edges.LOW, Edges.HIGH}) {
            e.due("v " + v, x.cut(0, v), -100);
        }
        e.due("none told", x.count(4), 0);
        for (int place = 0; place <= 11; place += 11) {
            e.due("a gap at first", x.cut(place, 1), -1);
            e.due("refused", x.cut(place, 2), -100);
            e.due("was 1", x.cut(place, 0), 1);
            e.due("refused", x.cut(place, -2), -100);
            e.due("was 0", x.cut(place, -1), 0);
            e.due("was a gap", x.cut(place, -1), -1);
        }
    }

    private static void cutFirst() {
        e.says("1 a sun, 0 none, -1 a gap of sight (at first)");
        SunRings x = new SunRings();
        for (int place = 0; place < 12; place++) {
            e.due("told so far", x.count(4), place);
            e.due("place " + place, x.cut(place, place % 2), -1);
        }
        e.due("all told", x.count(4), 12);
        e.due("a gap again", x.cut(5, -1), 1);
        e.due("eleven told", x.count(4), 11);
    }

    private static void madeNothingTold() {
        e.says("It is MADE by a set of CAUSES at h, if each place told 1 is met");
        SunRings x = ice();
        for (int set : new int[] {0, 1, 2, 65535}) {
            e.due("nothing told, by " + set, x.made(set, 0), 1);
        }
        x.cut(1, 1);
        e.due("a sun, by none", x.made(0, 0), 0);
        e.due("a sun, by its cause", x.made(2, 0), 1);
        x.cut(1, 0);
        e.due("no sun, by none", x.made(0, 0), 1);
        e.due("no sun, by its cause", x.made(2, 0), 0);
        x.cut(1, -1);
        e.due("a gap, by its cause", x.made(2, 0), 1);
    }

    /** The spot is at 224 with the sun at 82, at 225 from 83 to 95, at 226 from 96 on. */
    private static void madeDoubt() {
        e.says("with a doubt of 75");
        int[][] due = {{82, 224, 1, 0}, {83, 225, 1, 1}, {95, 225, 1, 1}, {96, 226, 0, 1}};
        for (int[] d : due) {
            SunRings x = ice();
            e.due("spot at", x.light(1, d[0], 0, 2), d[1]);
            x.cut(1, 1);
            e.due("150 at " + d[0], x.made(2, d[0]), d[2]);
            x.cut(1, 0);
            e.due("no 150 at " + d[0], x.made(2, d[0]), 1 - d[2]);
            x.cut(1, -1);
            x.cut(2, 1);
            e.due("300 at " + d[0], x.made(2, d[0]), d[3]);
            x.cut(2, 0);
            e.due("no 300 at " + d[0], x.made(2, d[0]), 1 - d[3]);
        }
        // Swaying from 219 to 374, then to 375.
        SunRings x = ice();
        x.cut(3, 1);
        x.rule(4, 155);
        e.due("450, to 374", x.made(8, 0), 0);
        x.rule(4, 156);
        e.due("450, to 375", x.made(8, 0), 1);
    }

    private static void madeNoPlaceToldNought() {
        e.says("and no place told 0 is.");
        SunRings x = ice();
        x.cut(1, 1);
        x.cut(8, 0);
        e.due("1200 is met", x.made(2, 0), 0);
        e.due("by swaying it is not", x.made(8, 0), 1);
        e.due("by both it is", x.made(10, 0), 0);
        x.cut(8, -1);
        e.due("a gap there", x.made(2, 0), 1);
        x.cut(7, 0);
        x.cut(9, 0);
        e.due("1200 is not near 1050 or 1350", x.made(2, 0), 1);
    }

    private static void madeBySpotsBesideAlone() {
        e.says("is met by a spot (form 2) beside of one of them");
        SunRings x = ice();
        for (int p = 0; p < 12; p++) {
            x.cut(p, 0);
        }
        e.due("rings and arcs and circles are no spots", x.made(1 | 4 | 128 | 2048 | 32768, 0), 1);
        e.due("a spot", x.made(2, 0), 0);
        for (int p = 0; p < 12; p++) {
            x.cut(p, -1);
        }
        x.cut(6, 1);
        e.due("a circle makes no sun", x.made(65535, 0), 0);
        x.cut(6, -1);
        x.cut(1, 1);
        e.due("a ring makes none", x.made(1, 0), 0);
        e.due("an arc makes none", x.made(4, 0), 0);
        SunRings last = new SunRings();
        last.wedge(3, 600);
        last.cut(2, 1);
        e.due("CAUSE 15, from 219 to 279", last.made(32768, 0), 1);
        e.due("all but CAUSE 15", last.made(32767, 0), 0);
    }

    private static void madePlaces() {
        e.says("A CUT is a row of 12 places beside the sun, place p at 150 p");
        // Nothing is turned: spots at 0, and behind at 1200 or 1800.
        SunRings x = Edges.unbending(1);
        x.rule(4, 0);
        x.wedge(0, 300);
        x.wedge(1, 600);
        x.wedge(2, 900);
        x.cut(0, 1);
        e.due("place 0", x.made(2, 0), 1);
        x.cut(1, 0);
        e.due("place 1 is not near", x.made(2, 0), 1);
        x.rule(4, 74);
        e.due("to 74", x.made(8, 0), 1);
        x.rule(4, 75);
        e.due("to 75", x.made(8, 0), 0);
        x.cut(8, 1);
        e.due("place 8", x.made(32, 0), 1);
        SunRings far = Edges.bending(1, 0, 0, 0, 0, 0, 0, 0, 0, 100);
        far.wedge(0, 200);
        far.wedge(1, 900);
        far.cut(11, 1);
        // A ring at 1600; the spot goes from 1725 with the sun at 236 to 1726 at 237.
        e.due("place 11, 1600", far.made(2, 0), 1);
        e.due("place 11, 1725", far.made(2, 236), 1);
        e.due("place 11, 1726", far.made(2, 237), 0);
        e.due("place 11, 1800", far.made(64, 0), 0);
        far.cut(10, 0);
        e.due("place 10, 1600", far.made(2, 0), 1);
        far.cut(0, 0);
        e.due("place 0 is far from 1600", far.made(2, 0), 1);
        far.cut(0, 1);
        e.due("no sun at place 0", far.made(2, 0), 0);
    }

    private static void makerOneOrTwo() {
        e.says("The first set (by bits) of one or two CAUSES that MAKES THE CUT at h.");
        SunRings x = ice();
        e.due("nothing told: one, not none", x.maker(0), 1);
        x.cut(1, 0);
        e.due("told none: one, not none", x.maker(0), 1);
        x.cut(1, 1);
        e.due("one", x.maker(0), 2);
        x.cut(2, 1);
        x.cut(8, 1);
        e.due("two", x.maker(0), 2 | 8);
        x.wedge(1, 900);
        x.cut(3, 1);
        e.due("three would make it", x.made(2 | 8 | 32, 0), 1);
        e.due("three are too many", x.maker(0), SunRings.NONE);
    }

    private static void makerFirstByBits() {
        e.says("The first set (by bits)");
        SunRings x = new SunRings();
        x.wedge(3, 600);
        x.cut(1, 1);
        e.due("13 alone", x.maker(0), 8192);
        x.cut(8, 0);
        e.due("15 alone", x.maker(0), 32768);
        x.cut(8, 1);
        x.cut(2, 1);
        e.due("13 and 15", x.maker(0), 8192 | 32768);
        // A pair of low causes goes ahead of one high cause.
        SunRings y = new SunRings();
        y.wedge(0, 600);
        y.wedge(1, 900);
        y.wedge(3, 600);
        y.wedge(3, 900);
        y.cut(1, 1);
        y.cut(3, 1);
        e.due("13 would", y.made(8192, 0), 1);
        e.due("1 and 5 are first", y.maker(0), 2 | 32);
        // With no sun at 1200 neither 1 nor 13 can take part.
        y.cut(8, 0);
        e.due("3 and 5", y.maker(0), 8 | 32);
    }

    private static void makerNone() {
        e.says("NONE; BAD.");
        SunRings bare = new SunRings();
        e.due("no ice, nothing told", bare.maker(0), 1);
        bare.cut(0, 1);
        e.due("no ice, a sun", bare.maker(0), SunRings.NONE);
        bare.cut(0, 0);
        e.due("no ice, no sun", bare.maker(900), 1);
        SunRings x = ice();
        x.cut(1, 1);
        e.due("h 95", x.maker(95), 2);
        e.due("h 600", x.maker(600), 8);
        e.due("h 601", x.maker(601), SunRings.NONE);
        // Spots at 0 and 1200, swaying from 0 to 300: place 0 is a gap, whatever stands there.
        SunRings un = Edges.unbending(1);
        un.wedge(0, 600);
        un.rule(4, 300);
        un.cut(8, 1);
        e.due("a spot in the gap at place 0", un.maker(0), 2);
        un.cut(2, 1);
        e.due("two spots in the gap at place 0", un.maker(0), 2 | 8);
        un.cut(0, 0);
        e.due("place 0 told 0", un.maker(0), SunRings.NONE);
    }
}
