/** The edges of WEDGES, of rays and RINGS, and of the LIGHTS of a CAUSE (promises 10 to 14), sentence by sentence. */
public final class EdgesIceTest {
    private static final int LOST = -10000, BAD_TURN = -100000;
    private static Edges e;

    public static void main(String[] args) throws Exception {
        e = new Edges("EdgesIceTest");
        wedgeNumbers();
        wedgesThree();
        wedgeTwice();
        noWedges();
        ofSortOne();
        turnedFromNought();
        turnedOutside();
        turnedBad();
        ringAnyRay();
        ringNone();
        ringBad();
        kindAndLean();
        anyWay();
        lyingHeight();
        lyingSkew();
        lyingFar();
        levelAbove();
        levelBelow();
        levelBoth();
        swaying();
        swayEdges();
        behindLying();
        behindLevel();
        behindSwaying();
        behindWithoutRing();
        sevenLights();
        noLights();
        lightNumbers();
        wedgeByWedge();
        e.end();
    }

    /** The ring of 600 is at 219, of 900 at 464; 1200 has none. */
    private static SunRings ice(int... wedgesOfKindNought) {
        SunRings x = new SunRings();
        for (int w : wedgesOfKindNought) {
            x.wedge(0, w);
        }
        return x;
    }

    /** Ice of kind 0 whose ring is 1800 less its only wedge: INSIDE reaches half the wedge at 900 alone. */
    private static SunRings far(int wedge) {
        SunRings x = Edges.bending(1, 0, 0, 0, 0, 0, 0, 0, 0, wedge / 2);
        x.wedge(0, wedge);
        return x;
    }

    private static void lightIs(String name, SunRings x, int[] causeHeightI, int... parts) {
        for (int what = 0; what < 4; what++) {
            e.due(name + ", part " + what,
                    x.light(causeHeightI[0], causeHeightI[1], causeHeightI[2], what), parts[what]);
        }
    }

    private static int[] at(int cause, int h, int i) {
        return new int[] {cause, h, i};
    }

    private static void lights(SunRings x, int cause, int h, int many) {
        e.due("lights of " + cause + " at " + h, x.light(cause, h, -1, 0), many);
        e.due("behind the last of " + cause + " at " + h, x.light(cause, h, many, 0), SunRings.NONE);
    }

    private static void wedgeNumbers() {
        e.says("KINDS of ice 0 to 3 have WEDGES");
        SunRings x = new SunRings();
        for (int kind = 0; kind <= 3; kind++) {
            e.due("kind " + kind, x.wedge(kind, 600), 1);
        }
        for (int kind : new int[] {-1, 4, Edges.LOW, Edges.HIGH}) {
            e.due("kind " + kind, x.wedge(kind, 600), SunRings.BAD);
        }
        e.says("(angles 200 to 1200)");
        for (int w : new int[] {199, 1201, 0, Edges.LOW, Edges.HIGH}) {
            e.due("wedge " + w, x.wedge(0, w), SunRings.BAD);
        }
        e.due("none came", x.count(0), 4);
        e.due("wedge 200", x.wedge(0, 200), 2);
        e.due("wedge 1200", x.wedge(0, 1200), 3);
    }

    private static void wedgesThree() {
        e.says("A WEDGE of a KIND: how many. BAD; NO: it has that one; FULL: 3.");
        SunRings x = new SunRings();
        for (int kind = 0; kind <= 3; kind++) {
            e.due("first", x.wedge(kind, 300), 1);
            e.due("second", x.wedge(kind, 400), 2);
            e.due("third", x.wedge(kind, 500), 3);
            e.due("fourth", x.wedge(kind, 700), SunRings.FULL);
            e.due("BAD ahead of FULL", x.wedge(kind, 199), SunRings.BAD);
            for (int w = 300; w <= 500; w += 100) {
                e.due("NO ahead of FULL", x.wedge(kind, w), SunRings.NO);
            }
            e.due("still three", x.count(0), 3 * kind + 3);
        }
        e.says("WEDGES, three at most (angles 200 to 1200), of SORT 1.");
        e.due("all twelve were", x.noWedges(0) + x.noWedges(1) + x.noWedges(2) + x.noWedges(3), 12);
    }

    private static void wedgeTwice() {
        e.says("NO: it has that one");
        SunRings x = ice(600);
        e.due("again", x.wedge(0, 600), SunRings.NO);
        e.due("one beside", x.wedge(0, 601), 2);
        e.due("another kind", x.wedge(1, 600), 1);
        e.due("still two and one", x.count(0), 3);
        x.noWedges(0);
        e.due("gone, so not again", x.wedge(0, 600), 1);
    }

    private static void noWedges() {
        e.says("A KIND has no WEDGES: how many there were. BAD.");
        SunRings x = ice(300, 400, 500);
        x.wedge(3, 600);
        e.due("three", x.noWedges(0), 3);
        e.due("none", x.noWedges(0), 0);
        e.due("never any", x.noWedges(1), 0);
        for (int kind : new int[] {-1, 4, Edges.LOW, Edges.HIGH}) {
            e.due("kind " + kind, x.noWedges(kind), SunRings.BAD);
        }
        e.due("the others stay", x.count(0), 1);
        e.due("one", x.noWedges(3), 1);
        e.due("room again", x.wedge(0, 300), 1);
        lightIs("only the new one", x, at(0, 0, 0), 0, 0, x.ring(300, 0), x.ring(300, 0));
        lights(x, 0, 0, 1);
    }

    private static void ofSortOne() {
        e.says("of SORT 1.");
        SunRings x = ice(600);
        for (int sort = 0; sort <= 2; sort += 2) {
            x.table(sort, 4, 300);
            e.due("sort " + sort + ", turned", x.turned(600, 0, 400), 219);
            e.due("sort " + sort + ", ring", x.ring(600, 0), 219);
            e.due("sort " + sort + ", light", x.light(0, 0, 0, 2), 219);
        }
        x.table(1, 4, 300);
        // INSIDE of 400 is 300, and s 300 too.
        e.due("sort 1, turned", x.turned(600, 0, 400), 200);
        e.due("sort 1, ring", x.ring(600, 0), 200);
        e.due("sort 1, light", x.light(0, 0, 0, 2), 200);
    }

    private static void turnedFromNought() {
        e.says("if s is 0 at least and has an OUTSIDE e, it comes out, turned by i and e less w, else it is LOST inside.");
        SunRings x = new SunRings();
        e.due("INSIDE of 268", x.inside(1, 0, 268), 200);
        e.due("s 0", x.turned(200, 0, 268), 68);
        e.due("INSIDE of 269", x.inside(1, 0, 269), 201);
        e.due("s -1", x.turned(200, 0, 269), LOST);
        e.due("INSIDE of 267", x.inside(1, 0, 267), 199);
        // INSIDE of 2 is 1.52.
        e.due("s 1", x.turned(200, 0, 267), 267 + 2 - 200);
        e.due("far below 0", x.turned(200, 0, 900), LOST);
    }

    private static void turnedOutside() {
        e.says("has an OUTSIDE e");
        SunRings x = new SunRings();
        // INSIDE of 134 is 101.5, of 135 102.25; the last OUTSIDE is of 498.
        e.due("s 499", x.turned(600, 0, 134), LOST);
        e.due("s 498", x.turned(600, 0, 135), 135 + 900 - 600);
        e.due("w 498, i 0", x.turned(498, 0, 0), 402);
        e.due("w 499, i 0", x.turned(499, 0, 0), LOST);
        e.due("w 1200, i 0", x.turned(1200, 0, 0), LOST);
        e.due("w 996, i 900", x.turned(996, 0, 900), 804);
        e.due("w 997, i 900", x.turned(997, 0, 900), LOST);
        // Of COLOUR 1 the last INSIDE is 497.
        e.due("w 994, colour 1", x.turned(994, 1, 900), 806);
        e.due("w 995, colour 1", x.turned(995, 1, 900), LOST);
        SunRings un = Edges.unbending(1);
        e.due("s 900", un.turned(900, 0, 0), 0);
        e.due("s 901", un.turned(901, 0, 0), LOST);
        e.due("s 900 again", un.turned(901, 0, 1), 0);
        e.due("w 1200, s 300", un.turned(1200, 0, 900), 0);
    }

    private static void turnedBad() {
        e.says("How a ray that comes in at i is turned. NONE -10000: it is LOST inside; BAD -100000.");
        SunRings x = new SunRings();
        for (int w : new int[] {199, 1201, Edges.LOW, Edges.HIGH}) {
            e.due("w " + w, x.turned(w, 0, 400), BAD_TURN);
        }
        for (int c : new int[] {-1, 4, Edges.LOW, Edges.HIGH}) {
            e.due("colour " + c, x.turned(600, c, 400), BAD_TURN);
        }
        for (int i : new int[] {-1, 901, Edges.LOW, Edges.HIGH}) {
            e.due("i " + i, x.turned(600, 0, i), BAD_TURN);
        }
        e.due("i 0", x.turned(200, 0, 0), 68);
        e.due("i 900", x.turned(900, 0, 900), 900 + 579 - 900);
        e.due("colour 3", x.turned(250, 3, 170), 84);
    }

    private static void ringAnyRay() {
        e.says("THE RING of a WEDGE is the least that any i 0 to 900 turns it");
        SunRings x = new SunRings();
        e.due("only i 900 comes out", x.ring(996, 0), 804);
        int least = Edges.HIGH;
        for (int i = 300; i <= 500; i++) {
            int turned = x.turned(600, 0, i);
            least = turned == LOST ? least : Math.min(least, turned);
        }
        e.due("the least", x.ring(600, 0), least);
        // INSIDE leaps from 198 to 207 past the wedge: the way back, from 823, is shut.
        SunRings leap = Edges.bending(1, 0, 0, 0, 0, 0, 0, 0, 0, 900);
        e.due("i 0", leap.turned(200, 0, 0), 623);
        e.due("i 1", leap.turned(200, 0, 1), 624);
        e.due("i 822", leap.turned(200, 0, 822), 822 + 801 - 200);
        e.due("i 823", leap.turned(200, 0, 823), LOST);
        e.due("the least is i 0", leap.ring(200, 0), 623);
        SunRings un = Edges.unbending(1);
        e.due("none is turned", un.ring(600, 0), 0);
        e.due("none is turned, 1200", un.ring(1200, 0), 0);
        SunRings flat = Edges.bending(1, 0, 200, 300, 400, 500, 600, 700, 800, 900);
        e.due("flat at first, i 0", flat.turned(200, 0, 0), 0);
        e.due("flat at first, s 0", flat.turned(200, 0, 200), 0);
        e.due("flat at first", flat.ring(200, 0), 0);
        e.due("COLOUR 3", x.ring(250, 3), 84);
    }

    private static void ringNone() {
        e.says("none, if none comes out.");
        SunRings x = new SunRings();
        e.due("996", x.ring(996, 0), 804);
        e.due("997", x.ring(997, 0), LOST);
        e.due("1200", x.ring(1200, 0), LOST);
        e.due("994, colour 1", x.ring(994, 1), 806);
        e.due("995, colour 1", x.ring(995, 1), LOST);
        SunRings down = Edges.straightDown(1);
        e.due("no INSIDE but 0", down.ring(200, 0), LOST);
        SunRings hundred = Edges.bending(1, 0, 0, 0, 0, 0, 0, 0, 0, 100);
        e.due("100 and 100", hundred.ring(200, 0), 1600);
        e.due("100 and 101", hundred.ring(201, 0), LOST);
    }

    private static void ringBad() {
        e.says("THE RING of a WEDGE (any angle 200 to 1200). NONE -10000; BAD -100000.");
        SunRings x = new SunRings();
        e.due("200, of no kind", x.ring(200, 0), 64);
        for (int w : new int[] {199, 1201, Edges.LOW, Edges.HIGH}) {
            e.due("w " + w, x.ring(w, 0), BAD_TURN);
        }
        for (int c : new int[] {-1, 4, Edges.LOW, Edges.HIGH}) {
            e.due("colour " + c, x.ring(600, c), BAD_TURN);
        }
    }

    private static void kindAndLean() {
        e.says("A CAUSE (0 to 15) is a KIND (by 4, cut) and a LEAN (modulo 4).");
        int[] forms = {0, 2, 1, 2};
        for (int kind = 0; kind <= 3; kind++) {
            SunRings x = new SunRings();
            x.wedge(kind, 700);
            for (int cause = 0; cause <= 15; cause++) {
                boolean has = cause / 4 == kind;
                int behind = cause % 4 == 3 ? 1 : 0;
                e.due("lights of " + cause, x.light(cause, 0, -1, 0), (has ? 1 : 0) + behind);
                e.due("form of " + cause, x.light(cause, 0, 0, 0),
                        has ? forms[cause % 4] : behind == 1 ? 3 : SunRings.NONE);
            }
        }
        SunRings x = ice(600);
        for (int cause : new int[] {-1, 16, Edges.LOW, Edges.HIGH}) {
            e.due("cause " + cause, x.light(cause, 0, -1, 0), SunRings.BAD);
            e.due("cause " + cause + ", first", x.light(cause, 0, 0, 0), SunRings.BAD);
        }
    }

    private static void anyWay() {
        e.says("0: a ring (form 0), all round (side 0), from d to d.");
        SunRings x = ice(600);
        for (int h : new int[] {0, 600, 601, 900}) {
            lightIs("h " + h, x, at(0, h, 0), 0, 0, 219, 219);
            lights(x, 0, h, 1);
        }
        e.says("by COLOUR 0");
        x.rule(0, 20);
        e.due("whatever FAN", x.light(0, 0, 0, 2), 219);
    }

    private static void lyingHeight() {
        e.says("1: a spot (form 2), beside (side 1), from d2 to d2");
        SunRings x = ice(700);
        int d = x.ring(700, 0);
        lightIs("h 0", x, at(1, 0, 0), 2, 1, d, d);
        e.says("not if h is above 600");
        lightIs("h 600", x, at(1, 600, 0), 2, 1, d + d / 5, d + d / 5);
        lights(x, 1, 600, 1);
        lights(x, 1, 601, 0);
        lights(x, 1, 900, 0);
    }

    private static void lyingSkew() {
        e.says("d2 = d and d times h by SKEW (SKEW 500 to 9000; 3000 at first), cut");
        SunRings x = ice(600);
        int[][] due = {{3000, 13, 219}, {3000, 14, 220}, {3000, 300, 240}, {3000, 600, 262},
            {500, 2, 219}, {500, 3, 220}, {500, 600, 481}, {9000, 41, 219}, {9000, 42, 220}, {9000, 600, 233}};
        for (int[] d : due) {
            x.rule(3, d[0]);
            lightIs("SKEW " + d[0] + ", h " + d[1], x, at(1, d[1], 0), 2, 1, d[2], d[2]);
        }
        e.due("499", x.rule(3, 499), -1000);
        e.due("9001", x.rule(3, 9001), -1000);
        e.due("still 9000", x.rule(3, 9000), 9000);
    }

    private static void lyingFar() {
        e.says("or d2 above 1800.");
        SunRings x = far(200);
        e.due("d", x.ring(200, 0), 1600);
        // 200 is 1600 times 375 by 3000; 376 gives 200.5, 377 gives 201.
        lightIs("h 374", x, at(1, 374, 0), 2, 1, 1799, 1799);
        lightIs("h 375", x, at(1, 375, 0), 2, 1, 1800, 1800);
        lightIs("h 376", x, at(1, 376, 0), 2, 1, 1800, 1800);
        lights(x, 1, 376, 1);
        lights(x, 1, 377, 0);
        lights(x, 3, 376, 2);
        lights(x, 3, 377, 1);
    }

    private static void levelAbove() {
        e.says("2: an arc (form 1) above (side 2), d to d, if h and d are 900 at most together");
        SunRings x = ice(600);
        lightIs("h 0", x, at(2, 0, 0), 1, 2, 219, 219);
        lights(x, 2, 0, 1);
        lightIs("h 681", x, at(2, 681, 0), 1, 2, 219, 219);
        lights(x, 2, 681, 2);
        lightIs("h 682", x, at(2, 682, 0), 1, 3, 219, 219);
        lights(x, 2, 682, 1);
        // A ring at 900: above with the sun at 0 alone, below with the sun at 900 alone.
        SunRings nine = far(900);
        e.due("d 900", nine.ring(900, 0), 900);
        lightIs("d 900, h 0", nine, at(2, 0, 0), 1, 2, 900, 900);
        lightIs("d 900, h 1", nine, at(2, 1, 0), 2, 1, 1800, 1800);
        // A ring at 902 is never above nor below.
        SunRings more = far(898);
        e.due("d 902", more.ring(898, 0), 902);
        lights(more, 2, 0, 0);
        lights(more, 2, 900, 0);
    }

    private static void levelBelow() {
        e.says("then one below (side 3), d to d, if h is d at least.");
        SunRings x = ice(600);
        lights(x, 2, 218, 1);
        lights(x, 2, 219, 2);
        lightIs("h 219, above first", x, at(2, 219, 0), 1, 2, 219, 219);
        lightIs("h 219, below", x, at(2, 219, 1), 1, 3, 219, 219);
        lightIs("h 900", x, at(2, 900, 0), 1, 3, 219, 219);
        lights(x, 2, 900, 1);
        SunRings nine = far(900);
        lightIs("d 900, h 900", nine, at(2, 900, 0), 1, 3, 900, 900);
        lightIs("d 900, h 899", nine, at(2, 899, 0), 2, 1, 1800, 1800);
    }

    private static void levelBoth() {
        e.says("if h and d are 900 at most together; then one below (side 3), d to d, if h is d at least.");
        // Nothing is turned: d is 0.
        SunRings un = Edges.unbending(1);
        un.wedge(0, 300);
        for (int h : new int[] {0, 900}) {
            lightIs("h " + h + ", above", un, at(2, h, 0), 1, 2, 0, 0);
            lightIs("h " + h + ", below", un, at(2, h, 1), 1, 3, 0, 0);
            lights(un, 2, h, 2);
        }
        // d is 450: both with the sun at 450 alone.
        SunRings x = ice(889);
        e.due("d 450", x.ring(889, 0), 450);
        lights(x, 2, 449, 1);
        lights(x, 2, 450, 2);
        lights(x, 2, 451, 1);
        e.due("449: above", x.light(2, 449, 0, 1), 2);
        e.due("451: below", x.light(2, 451, 0, 1), 3);
    }

    private static void swaying() {
        e.says("3: a spot, beside, from d to d2 and SWAY (0 to 300; 60 at first), on the conditions of 1.");
        SunRings x = ice(600);
        lightIs("h 0", x, at(3, 0, 0), 2, 1, 219, 279);
        lightIs("h 300", x, at(3, 300, 0), 2, 1, 219, 300);
        lightIs("h 600", x, at(3, 600, 0), 2, 1, 219, 322);
        lights(x, 3, 600, 2);
        lights(x, 3, 601, 1);
    }

    private static void swayEdges() {
        e.says("SWAY (0 to 300; 60 at first)");
        SunRings x = ice(600);
        e.due("-1", x.rule(4, -1), -1000);
        e.due("301", x.rule(4, 301), -1000);
        e.due("60 at first", x.rule(4, 0), 60);
        lightIs("SWAY 0", x, at(3, 0, 0), 2, 1, 219, 219);
        x.rule(4, 300);
        lightIs("SWAY 300", x, at(3, 0, 0), 2, 1, 219, 519);
        lightIs("SWAY has no part in LEAN 1", x, at(1, 0, 0), 2, 1, 219, 219);
        // Only d2 alone may not be above 1800.
        SunRings wide = far(200);
        lightIs("d2 and SWAY beyond 1800", wide, at(3, 376, 0), 2, 1, 1600, 1860);
    }

    private static void behindLying() {
        e.says("Behind them, of LEAN 1, if the KIND has a WEDGE of 600: a spot beside at 1200");
        lights(ice(599), 1, 0, 1);
        lights(ice(601), 1, 0, 1);
        SunRings x = ice(600, 700);
        lights(x, 1, 0, 3);
        lightIs("behind both", x, at(1, 0, 2), 2, 1, 1200, 1200);
        lights(x, 1, 601, 1);
        lightIs("at any height", x, at(1, 900, 0), 2, 1, 1200, 1200);
        lights(x, 5, 0, 0);
        lights(x, 0, 0, 2);
        lights(x, 2, 0, 2);
        lights(x, 3, 0, 3);
        lights(ice(900), 1, 0, 1);
        SunRings third = ice(300, 400, 600);
        lightIs("the third wedge", third, at(1, 0, 3), 2, 1, 1200, 1200);
        third.noWedges(0);
        lights(third, 1, 0, 0);
    }

    private static void behindLevel() {
        e.says("of LEAN 2, if it has one of 900: a spot beside at 1800");
        lights(ice(899), 2, 0, 1);
        lights(ice(901), 2, 0, 1);
        SunRings x = ice(900, 700);
        lights(x, 2, 0, 3);
        lightIs("behind both", x, at(2, 0, 2), 2, 1, 1800, 1800);
        lightIs("at any height", x, at(2, 900, 2), 2, 1, 1800, 1800);
        lights(x, 6, 0, 0);
        lights(x, 0, 0, 2);
        lights(x, 1, 0, 2);
        lights(x, 3, 0, 3);
        lights(ice(600), 2, 0, 1);
    }

    private static void behindSwaying() {
        e.says("of LEAN 3, whatever its WEDGES, a circle (form 3), beside, from 0 to 1800.");
        SunRings x = ice(600, 900);
        for (int kind = 0; kind <= 3; kind++) {
            int last = kind == 0 ? 2 : 0;
            lightIs("kind " + kind, x, at(4 * kind + 3, 0, last), 3, 1, 0, 1800);
            lights(x, 4 * kind + 3, 0, last + 1);
            lightIs("kind " + kind + ", h 900", x, at(4 * kind + 3, 900, 0), 3, 1, 0, 1800);
            lights(x, 4 * kind + 3, 900, 1);
        }
    }

    /** The document's words ask for the wedge alone, not for its ring. */
    private static void behindWithoutRing() {
        e.says("if the KIND has a WEDGE of 600: a spot beside at 1200; of LEAN 2, if it has one of 900");
        SunRings x = Edges.straightDown(1);
        x.wedge(0, 600);
        x.wedge(0, 900);
        lights(x, 0, 0, 0);
        lights(x, 1, 0, 1);
        lightIs("1200", x, at(1, 0, 0), 2, 1, 1200, 1200);
        lights(x, 2, 0, 1);
        lightIs("1800", x, at(2, 0, 0), 2, 1, 1800, 1800);
        lights(x, 3, 0, 1);
    }

    private static void sevenLights() {
        e.says("LIGHTS of a CAUSE are 7 at most.");
        SunRings x = Edges.unbending(1);
        x.wedge(0, 300);
        x.wedge(0, 900);
        x.wedge(0, 600);
        lights(x, 2, 500, 7);
        for (int n = 0; n < 3; n++) {
            lightIs("above " + n, x, at(2, 500, 2 * n), 1, 2, 0, 0);
            lightIs("below " + n, x, at(2, 500, 2 * n + 1), 1, 3, 0, 0);
        }
        lightIs("the seventh", x, at(2, 500, 6), 2, 1, 1800, 1800);
        e.due("the eighth", x.light(2, 500, 7, 0), SunRings.NONE);
        lights(x, 0, 500, 3);
        lights(x, 1, 500, 4);
        lights(x, 3, 500, 4);
    }

    private static void noLights() {
        e.says("i = -1: how many. NONE; BAD.");
        SunRings x = new SunRings();
        for (int cause = 0; cause <= 15; cause++) {
            lights(x, cause, 0, cause % 4 == 3 ? 1 : 0);
        }
        SunRings none = ice(1200);
        for (int cause = 0; cause <= 2; cause++) {
            lights(none, cause, 0, 0);
        }
    }

    private static void lightNumbers() {
        e.says("Of the i-th LIGHT of a CAUSE at h: form (0), side (1), from (2), to (3); i = -1: how many. NONE; BAD.");
        SunRings x = ice(600);
        for (int h : new int[] {-1, 901, Edges.LOW, Edges.HIGH}) {
            e.due("h " + h, x.light(0, h, 0, 0), SunRings.BAD);
            e.due("h " + h + ", how many", x.light(0, h, -1, 0), SunRings.BAD);
        }
        for (int what : new int[] {-1, 4, Edges.LOW, Edges.HIGH}) {
            e.due("what " + what, x.light(0, 0, 0, what), SunRings.BAD);
            e.due("what " + what + ", how many", x.light(0, 0, -1, what), SunRings.BAD);
            e.due("what " + what + ", no such light", x.light(0, 0, 1, what), SunRings.BAD);
        }
        for (int i : new int[] {-2, Edges.LOW}) {
            e.due("i " + i, x.light(0, 0, i, 0), SunRings.BAD);
        }
        for (int i : new int[] {1, 6, 7, Edges.HIGH}) {
            e.due("i " + i, x.light(0, 0, i, 0), SunRings.NONE);
        }
        for (int what = 0; what <= 3; what++) {
            e.due("how many, what " + what, x.light(0, 0, -1, what), 1);
        }
    }

    private static void wedgeByWedge() {
        e.says("by COLOUR 0, WEDGE by WEDGE (with RING d)");
        SunRings x = ice(900, 1200, 600);
        lights(x, 0, 0, 2);
        lightIs("the first given first", x, at(0, 0, 0), 0, 0, 464, 464);
        lightIs("none of a wedge without a ring", x, at(0, 0, 1), 0, 0, 219, 219);
        lightIs("level, first", x, at(2, 450, 0), 1, 2, 219, 219);
        lightIs("level, second", x, at(2, 450, 1), 1, 3, 219, 219);
        lightIs("level, 900's", x, at(2, 450, 2), 2, 1, 1800, 1800);
    }
}
