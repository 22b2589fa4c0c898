/** The edges of RAYS, of THE MAP, of THE BOW and of the dark (promises 6 to 9), sentence by sentence. */
public final class EdgesDropsTest {
    private static final int BAD_RAY = -100000, BAD_BOW = -1000000, NO_TOP = -100000;
    private static Edges e;

    public static void main(String[] args) throws Exception {
        e = new Edges("EdgesDropsTest");
        ofSortNought();
        rayNumbers();
        turns();
        fromTheSun();
        itsLight();
        shine();
        lostAndOut();
        mapNumbers();
        degreeToNineMore();
        mapEnds();
        mapRays();
        mapColours();
        bowLowestOfSeveral();
        bowNone();
        broad();
        broadEnds();
        top();
        topNone();
        bowBad();
        darkWidest();
        darkBetween();
        darkBeyond();
        darkNoAndBad();
        e.end();
    }

    private static void ofSortNought() {
        e.says("A DROP is of SORT 0.");
        SunRings x = new SunRings();
        long map = x.map(1, 0, 138);
        x.table(1, 6, 400);
        x.table(2, 6, 320);
        e.due("other sorts: TURNS", x.ray(1, 0, 600, 0), 1376);
        e.due("other sorts: MAP", x.map(1, 0, 138), map);
        x.table(0, 6, 400);
        e.due("sort 0: TURNS", x.ray(1, 0, 600, 0), 1400);
        e.due("sort 0: MAP", x.map(1, 0, 138) == map ? 1 : 0, 0);
    }

    private static void rayNumbers() {
        SunRings x = new SunRings();
        e.says("with k MIRRORS (0 to 5)");
        for (int k = 0; k <= 5; k++) {
            e.due("ray(" + k + ", 0, 0, 0)", x.ray(k, 0, 0, 0), 1800 * k);
        }
        int[] colours = {824, 826, 830, 834};
        for (int out : new int[] {-1, 6, Edges.LOW, Edges.HIGH}) {
            e.due("ray, mirrors " + out, x.ray(out, 0, 450, 2), BAD_RAY);
        }
        e.says("Of COLOUR c (0 to 3)");
        for (int c = 0; c <= 3; c++) {
            e.due("ray(0, " + c + ", 900, 0)", x.ray(0, c, 900, 0), colours[c]);
        }
        for (int out : new int[] {-1, 4, Edges.LOW, Edges.HIGH}) {
            e.due("ray, colour " + out, x.ray(0, out, 450, 2), BAD_RAY);
        }
        // INSIDE of 600 is 406, of COLOUR 3 that less 4.
        e.due("ray(1, 3, 600, 0)", x.ray(1, 3, 600, 0), 1392);
        e.due("ray(1, 3, 600, 1)", x.ray(1, 3, 600, 1), 1392);
        e.due("ray(3, 3, 600, 1)", x.ray(3, 3, 600, 1), 3600 - 3384);
        e.says("A RAY that comes in at i (0 to 900)");
        e.due("i 0", x.ray(0, 0, 0, 0), 0);
        e.due("i 900", x.ray(0, 0, 900, 0), 824);
        for (int out : new int[] {-1, 901, Edges.LOW, Edges.HIGH}) {
            e.due("ray, i " + out, x.ray(0, 0, out, 2), BAD_RAY);
        }
        e.says("Of a RAY: 0 what it TURNS by, 1 FROM THE SUN, 2 ITS LIGHT, 3 OUT, 4 LOST. BAD -100000.");
        int[] parts = {2300, 1300, 140000, 316, 139684};
        for (int what = 0; what <= 4; what++) {
            e.due("ray(2, 0, 700, " + what + ")", x.ray(2, 0, 700, what), parts[what]);
        }
        for (int out : new int[] {-1, 5, Edges.LOW, Edges.HIGH}) {
            e.due("ray, what " + out, x.ray(0, 0, 450, out), BAD_RAY);
        }
    }

    private static void turns() {
        e.says("TURNS by 2 i less 2 r and k times (1800 less 2 r and SQUASH) (SQUASH -100 to 100; 0 at first)");
        SunRings x = new SunRings();
        e.due("no mirror", x.ray(0, 0, 600, 0), 388);
        e.due("one", x.ray(1, 0, 600, 0), 1376);
        e.due("five", x.ray(5, 0, 600, 0), 5328);
        e.due("too round", x.rule(1, 101), -1000);
        e.due("too flat", x.rule(1, -101), -1000);
        x.rule(1, 100);
        e.due("no mirror, 100", x.ray(0, 0, 600, 0), 388);
        e.due("one, 100", x.ray(1, 0, 600, 0), 1476);
        e.due("five, 100", x.ray(5, 0, 600, 0), 5828);
        x.rule(1, -100);
        e.due("no mirror, -100", x.ray(0, 0, 600, 0), 388);
        e.due("one, -100", x.ray(1, 0, 600, 0), 1276);
        e.due("five, -100", x.ray(5, 0, 600, 0), 4828);
    }

    private static void sun(SunRings x, int squash, int[] ray, int turns, int from) {
        x.rule(1, squash);
        e.due("TURNS, " + ray[0] + " mirrors, squash " + squash, x.ray(ray[0], 0, ray[1], 0), turns);
        e.due("FROM THE SUN at " + turns, x.ray(ray[0], 0, ray[1], 1), from);
    }

    private static void fromTheSun() {
        e.says("FROM THE SUN it is that modulo 3600 (0 to 3599, where it is below 0, too), "
                + "if it is above 1800 3600 less that.");
        SunRings down = Edges.straightDown(0);
        int[] first = {1, 0}, last = {1, 900};
        sun(down, -1, first, 1799, 1799);
        sun(down, 0, first, 1800, 1800);
        sun(down, 1, first, 1801, 1799);
        sun(down, -1, last, 3599, 1);
        sun(down, 0, last, 3600, 0);
        sun(down, 1, last, 3601, 1);
        sun(down, -1, new int[] {3, 900}, 7197, 3);
        sun(down, 0, new int[] {3, 900}, 7200, 0);
        sun(down, 100, new int[] {5, 900}, 11300, 500);
        SunRings un = Edges.unbending(0);
        sun(un, 1, last, 1, 1);
        sun(un, 0, last, 0, 0);
        sun(un, -1, last, -1, 1);
        sun(un, -100, last, -100, 100);
        sun(un, -100, new int[] {5, 900}, -500, 500);
        sun(un, 0, new int[] {0, 900}, 0, 0);
    }

    private static void itsLight() {
        e.says("ITS LIGHT is i times (900 less i).");
        SunRings x = new SunRings();
        int[][] due = {{0, 0}, {1, 899}, {449, 202499}, {450, 202500}, {451, 202499}, {899, 899}, {900, 0}};
        for (int[] d : due) {
            e.due("light at " + d[0], x.ray(3, 2, d[0], 2), d[1]);
        }
    }

    private static void shine() {
        e.says("Of light that comes to a face, SHINE hundredths (0 to 100; 5 at first), cut, are thrown back, "
                + "the rest goes through");
        SunRings x = new SunRings();
        // 899: 44.95 thrown back, 855 on; of these 42.75.
        e.due("5, OUT", x.ray(0, 0, 1, 3), 813);
        e.due("5, LOST", x.ray(0, 0, 1, 4), 86);
        x.rule(2, 0);
        e.due("0, OUT", x.ray(0, 0, 1, 3), 899);
        e.due("0, LOST", x.ray(0, 0, 1, 4), 0);
        x.rule(2, 1);
        // 8.99 and 8.91 thrown back.
        e.due("1, OUT", x.ray(0, 0, 1, 3), 883);
        x.rule(2, 99);
        // 890.01 and 8.91 thrown back.
        e.due("99, OUT", x.ray(0, 0, 1, 3), 1);
        e.due("99, LOST", x.ray(0, 0, 1, 4), 898);
        x.rule(2, 100);
        e.due("100, OUT", x.ray(0, 0, 1, 3), 0);
        e.due("100, LOST", x.ray(0, 0, 1, 4), 899);
        e.due("101", x.rule(2, 101), -1000);
        e.due("-1", x.rule(2, -1), -1000);
    }

    private static void lostAndOut() {
        e.says("what is thrown back at the first face, and what goes through at a MIRROR, is LOST; "
                + "at the last face what is thrown back is LOST, what goes through is OUT.");
        SunRings x = new SunRings();
        x.rule(2, 50);
        // 202500, 101250 in, then by mirrors 50625, 25312, 12656, 6328, 3164; half of it goes out.
        int[] out = {50625, 25313, 12656, 6328, 3164, 1582};
        for (int k = 0; k <= 5; k++) {
            e.due("OUT, " + k, x.ray(k, 0, 450, 3), out[k]);
            e.due("LOST, " + k, x.ray(k, 0, 450, 4), 202500 - out[k]);
        }
        x.rule(2, 5);
        // 855 in; 42.75 and 2.1 and 0.1 thrown back.
        e.due("OUT, one mirror, i 1", x.ray(1, 0, 1, 3), 40);
        e.due("OUT, two mirrors, i 1", x.ray(2, 0, 1, 3), 2);
        e.due("OUT, three mirrors, i 1", x.ray(3, 0, 1, 3), 0);
        e.due("LOST, three mirrors, i 1", x.ray(3, 0, 1, 4), 899);
        x.rule(2, 0);
        e.due("no shine, no mirror", x.ray(0, 0, 450, 3), 202500);
        e.due("no shine, a mirror", x.ray(1, 0, 450, 3), 0);
        x.rule(2, 100);
        e.due("all shine, no mirror", x.ray(0, 0, 450, 4), 202500);
        e.due("all shine, five mirrors", x.ray(5, 0, 450, 4), 202500);
    }

    private static void mapNumbers() {
        e.says("THE MAP of k and a COLOUR has DEGREES 0 to 180");
        SunRings x = new SunRings();
        for (int out : new int[] {-1, 181, Edges.LOW, Edges.HIGH}) {
            e.due("degree " + out, x.map(1, 0, out), SunRings.BAD);
        }
        e.due("degree 0", x.map(0, 0, 0), 24055);
        e.due("degree 180", x.map(4, 0, 180), 1);
        e.says("THE MAP at a degree. BAD.");
        for (int out : new int[] {-1, 6, Edges.LOW, Edges.HIGH}) {
            e.due("mirrors " + out, x.map(out, 0, 90), SunRings.BAD);
        }
        for (int out : new int[] {-1, 4, Edges.LOW, Edges.HIGH}) {
            e.due("colour " + out, x.map(1, out, 90), SunRings.BAD);
        }
        x.rule(2, 50);
        long sum = 0, rays = 0;
        for (int degree = 0; degree <= 180; degree++) {
            sum += x.map(5, 3, degree);
        }
        for (int i = 0; i <= 900; i += 5) {
            rays += x.ray(5, 3, i, 3);
        }
        e.due("all light of five mirrors, colour 3", sum, rays);
    }

    /** Drops that do not bend, with a mirror and SHINE 50: a ray at i is 1800 less 2 i and SQUASH from the sun. */
    private static SunRings oneRayADegree(int squash) {
        SunRings x = Edges.unbending(0);
        x.rule(2, 50);
        x.rule(1, squash);
        return x;
    }

    private static void degreeToNineMore() {
        e.says("the sum of what is OUT of RAYS i = 0, 5, 10, .. 900 that are FROM THE SUN "
                + "by 10 times that degree to 9 more.");
        // The ray at 450 has 25313 OUT; those at 445 and 455, beside it by 10, have 25310.
        e.due("at 899", oneRayADegree(-1).map(1, 0, 90), 25310);
        e.due("at 900", oneRayADegree(0).map(1, 0, 90), 25313);
        e.due("at 909", oneRayADegree(9).map(1, 0, 90), 25313);
        e.due("at 910", oneRayADegree(10).map(1, 0, 90), 25310);
        e.due("at 910, the next", oneRayADegree(10).map(1, 0, 91), 25313);
    }

    private static void mapEnds() {
        e.says("by 10 times that degree to 9 more.");
        // The rays at 5 and 895 have 4475 in: 2238, 1119, and 560 OUT. Those at 10 and 890 have 1113 OUT.
        e.due("i 5 at 1799", oneRayADegree(9).map(1, 0, 180), 0);
        e.due("i 5 at 1800", oneRayADegree(10).map(1, 0, 180), 560);
        e.due("i 5 at 1801", oneRayADegree(11).map(1, 0, 180), 0);
        e.due("i 895 at 10", oneRayADegree(0).map(1, 0, 0), 0);
        e.due("i 895 at 9", oneRayADegree(-1).map(1, 0, 0), 560);
        e.due("i 895 at 0", oneRayADegree(-10).map(1, 0, 0), 560);
        // There the ray at 890 comes in at 1.
        e.due("i 895 at -9", oneRayADegree(-19).map(1, 0, 0), 560 + 1113);
        e.due("i 895 at -10", oneRayADegree(-20).map(1, 0, 0), 1113);
    }

    private static void mapRays() {
        e.says("RAYS i = 0, 5, 10, .. 900");
        SunRings x = Edges.unbending(0);
        x.rule(2, 0);
        // 25 times the sum of m (180 - m) for m from 0 to 180.
        e.due("all light", x.map(0, 0, 0), 25L * 971970);
        e.due("none else", x.map(0, 0, 1), 0);
        e.due("none at a mirror", x.map(1, 0, 90), 0);
    }

    private static void mapColours() {
        e.says("THE MAP of k and a COLOUR");
        SunRings x = Edges.unbending(0);
        x.rule(2, 0);
        x.rule(0, 20);
        // Of COLOUR 3 a ray at i is turned by twice 6 hundredths of i, cut: those from 835 on by 100 to 108,
        // 25 times the sum of m (180 - m) for m from 0 to 13; of COLOUR 0 none is turned.
        e.due("COLOUR 3 at 10", x.map(0, 3, 10), 25L * 15561);
        e.due("COLOUR 0 at 10", x.map(0, 0, 10), 0);
        // Of COLOUR 1 by twice 2 hundredths: those from 750 on by 30 to 36, of COLOUR 2 none by 80.
        e.due("COLOUR 1 at 3", x.map(0, 1, 3), 25L * (180 * 465 - 9455));
        e.due("COLOUR 2 at 8", x.map(0, 2, 8), 0);
        e.due("COLOUR 2 at 7", x.map(0, 2, 7) > 0 ? 1 : 0, 1);
    }

    private static void bowLowestOfSeveral() {
        e.says("THE BOW stands at the degree of most light, of several the lowest");
        SunRings x = new SunRings();
        int[] twos = {145, 161, 163, 168, 173, 175};
        for (int degree : twos) {
            e.due("light at " + degree, x.map(4, 0, degree), 2);
        }
        e.due("the lowest", x.bow(4, 0, 0, 0), 145);
        SunRings u = Edges.unbending(0);
        u.rule(2, 2);
        e.due("less at 0", u.map(3, 0, 0), 1);
        e.due("most at 3", u.map(3, 0, 3), 2);
        e.due("most at 177", u.map(3, 0, 177), 2);
        e.due("the lowest", u.bow(3, 0, 0, 0), 3);
        e.due("all at 0", u.bow(0, 0, 0, 0), 0);
        SunRings near = Edges.bending(0, 95, 195, 295, 395, 495, 595, 695, 795, 895);
        e.due("most rays are turned by 10", near.bow(0, 0, 0, 0), 1);
        SunRings half = Edges.halving(0);
        half.rule(2, 50);
        e.due("rays at 1798 are more", half.bow(1, 0, 0, 0), 179);
        half.rule(1, -2);
        e.due("rays at 1800 are more", half.bow(1, 0, 0, 0), 180);
    }

    private static void bowNone() {
        e.says("none, if there is no light.");
        SunRings x = new SunRings();
        e.due("five mirrors, SHINE 5", x.bow(5, 0, 0, 0), SunRings.NONE);
        x.rule(2, 8);
        // 186300, 14904, 1192, 95, 7, 0 at most.
        e.due("SHINE 8", x.bow(5, 0, 0, 0), SunRings.NONE);
        e.due("SHINE 8, how broad", x.bow(5, 0, 0, 1), SunRings.NONE);
        e.due("SHINE 8, top", x.bow(5, 0, 0, 2), NO_TOP);
        x.rule(2, 9);
        // 184275, 16584, 1492, 134, 12, 1.
        e.due("SHINE 9", x.bow(5, 0, 0, 0) >= 0 ? 1 : 0, 1);
        e.due("SHINE 9, light", x.map(5, 0, x.bow(5, 0, 0, 0)), 1);
        x.rule(2, 100);
        x.rule(2, 0);
        e.due("SHINE 0, no mirror", x.bow(0, 0, 0, 0) >= 0 ? 1 : 0, 1);
        e.due("SHINE 0, a mirror", x.bow(1, 0, 0, 0), SunRings.NONE);
        x.rule(2, 100);
        e.due("SHINE 100, no mirror", x.bow(0, 0, 0, 0), SunRings.NONE);
        e.due("SHINE 100, a mirror", x.bow(1, 0, 0, 0), SunRings.NONE);
    }

    /** The bow of k mirrors, with what is beside it, is as broad as told. */
    private static void broadness(int shine, int squash, int[] bow, int[] lights, int broad) {
        SunRings x = new SunRings();
        x.rule(2, shine);
        x.rule(1, squash);
        String name = "SHINE " + shine + ", SQUASH " + squash;
        e.due(name + ", degree", x.bow(bow[0], 0, 0, 0), bow[1]);
        for (int n = 0; n < lights.length; n++) {
            e.due(name + ", light " + n, x.map(bow[0], 0, bow[2] + n), lights[n]);
        }
        e.due(name + ", BROAD", x.bow(bow[0], 0, 0, 1), broad);
    }

    private static void broad() {
        e.says("It is as BROAD as degrees side by side with it, it too, that have half its light at least "
                + "(twice theirs is its at least).");
        broadness(2, 30, new int[] {3, 4, 3}, new int[] {1, 3, 1}, 1);
        broadness(2, 70, new int[] {3, 12, 11}, new int[] {1, 4, 2, 1}, 2);
        broadness(5, 100, new int[] {4, 108, 106}, new int[] {0, 1, 2, 0}, 2);
        broadness(7, 0, new int[] {4, 46, 43}, new int[] {4, 8, 6, 9, 4}, 3);
        broadness(7, -10, new int[] {4, 42, 38}, new int[] {1, 5, 7, 6, 9, 4}, 4);
        // Degrees with half its light, but not side by side with it: 147 to 151.
        broadness(5, 0, new int[] {4, 145, 144}, new int[] {0, 2, 0, 1, 1, 1, 1, 1}, 1);
    }

    private static void broadEnds() {
        e.says("degrees side by side with it, it too");
        SunRings all = Edges.unbending(0);
        e.due("at 0 alone", all.bow(0, 0, 0, 1), 1);
        SunRings half = Edges.halving(0);
        half.rule(2, 50);
        e.due("at 179, with 180", half.bow(1, 0, 0, 1), 2);
        half.rule(1, -2);
        e.due("at 180, with 179", half.bow(1, 0, 0, 1), 2);
        half.rule(1, 2);
        // Rays at 1802 and 1804: all at 179.
        e.due("at 179 alone", half.bow(1, 0, 0, 1), 1);
        // No mirror: rays up to 380 are turned by less than 10, the others by 10.
        SunRings near = Edges.bending(0, 100, 200, 300, 395, 495, 595, 695, 795, 895);
        e.due("more light at 1", near.bow(0, 0, 0, 0), 1);
        e.due("but half of it at 0", 2 * near.map(0, 0, 0) >= near.map(0, 0, 1) ? 1 : 0, 1);
        e.due("at 1, with 0", near.bow(0, 0, 0, 1), 2);
    }

    private static void top() {
        e.says("With the sun at a height h (0 to 900) its TOP is at 1800 less 10 times that degree less h "
                + "(none, where that is below 0).");
        SunRings x = new SunRings();
        e.due("at 138, h 0", x.bow(1, 0, 0, 2), 420);
        e.due("h 419", x.bow(1, 0, 419, 2), 1);
        e.due("h 420", x.bow(1, 0, 420, 2), 0);
        e.due("h 421", x.bow(1, 0, 421, 2), NO_TOP);
        e.due("h 900", x.bow(1, 0, 900, 2), NO_TOP);
        e.due("h has no part in the degree", x.bow(1, 0, 900, 0), 138);
        e.due("nor in how broad", x.bow(1, 0, 900, 1), 2);
        SunRings un = Edges.unbending(0);
        e.due("at 0, h 0", un.bow(0, 0, 0, 2), 1800);
        e.due("at 0, h 900", un.bow(0, 0, 900, 2), 900);
    }

    private static void topNone() {
        e.says("NONE (of what = 2: -100000: no BOW, or no TOP)");
        SunRings half = Edges.halving(0);
        half.rule(2, 50);
        half.rule(1, -2);
        e.due("at 180, h 0", half.bow(1, 0, 0, 2), 0);
        e.due("at 180, h 1", half.bow(1, 0, 1, 2), NO_TOP);
        half.rule(2, 0);
        e.due("no bow, h 0", half.bow(1, 0, 0, 2), NO_TOP);
        e.due("no bow, degree", half.bow(1, 0, 0, 0), SunRings.NONE);
        e.due("no bow, how broad", half.bow(1, 0, 0, 1), SunRings.NONE);
    }

    private static void bowBad() {
        e.says("BAD answers -1000000.");
        SunRings x = new SunRings();
        for (int what = 0; what <= 2; what++) {
            for (int h : new int[] {-1, 901, Edges.LOW, Edges.HIGH}) {
                e.due("h " + h + ", what " + what, x.bow(1, 0, h, what), BAD_BOW);
            }
            for (int k : new int[] {-1, 6, Edges.LOW, Edges.HIGH}) {
                e.due("mirrors " + k + ", what " + what, x.bow(k, 0, 0, what), BAD_BOW);
            }
            for (int c : new int[] {-1, 4, Edges.LOW, Edges.HIGH}) {
                e.due("colour " + c + ", what " + what, x.bow(1, c, 0, what), BAD_BOW);
            }
        }
        e.says("THE BOW: its degree (what = 0), how BROAD (1), its TOP with the sun at h (2).");
        for (int what : new int[] {-1, 3, Edges.LOW, Edges.HIGH}) {
            e.due("what " + what, x.bow(1, 0, 0, what), BAD_BOW);
            e.due("no bow, what " + what, x.bow(5, 0, 0, what), BAD_BOW);
        }
        e.due("colour 3", x.bow(2, 3, 0, 0), 124);
        e.due("no mirror", x.bow(0, 0, 0, 0), 15);
    }

    private static void darkWidest() {
        e.says("DEGREES at which neither of two MAPS (of a and b MIRRORS, COLOUR 0) has light: "
                + "the widest row of such that lies between their BOWS: how many.");
        SunRings x = new SunRings();
        // Bows at 138 and 127; light ends at 130 and begins at 137.
        e.due("light at 130", x.map(2, 0, 130), 316);
        e.due("light at 137", x.map(1, 0, 137), 24366);
        e.due("131 to 136", x.dark(1, 2), 6);
        e.due("either way", x.dark(2, 1), 6);
        // Bows at 40 and 145, with light of three mirrors at most second degrees between them.
        e.due("two at most", x.dark(3, 4), 2);
        // Bows at 15 and 138: light of no mirror ends at 81, of one mirror begins at 137.
        e.due("82 to 136", x.dark(0, 1), 55);
        x.rule(0, 20);
        e.due("of COLOUR 0 only", x.dark(1, 2), 6);
    }

    private static void darkBetween() {
        e.says("that lies between their BOWS");
        SunRings x = new SunRings();
        // Bows at 15 and 40, where both maps have light nearly everywhere; dark from 82 on lies beyond both.
        e.due("no dark between", x.dark(0, 3), 0);
        // Bows at 15 and 127; 131 to 180 are dark, beyond them.
        e.due("light ends at 130", x.map(2, 0, 131) + x.map(0, 0, 131) + x.map(2, 0, 180) + x.map(0, 0, 180), 0);
        e.due("one at most", x.dark(0, 2), 1);
        SunRings un = Edges.unbending(0);
        un.rule(2, 50);
        // All light of no mirror at 0, of one mirror at each degree from 1 to 179.
        e.due("light all the way", un.dark(0, 1), 0);
        // Of two mirrors at each second degree, most at 178, where two rays are.
        e.due("two mirrors' bow", un.bow(2, 0, 0, 0), 178);
        e.due("one by one", un.dark(0, 2), 1);
        x.rule(1, -33);
        e.due("bow 1", x.bow(1, 0, 0, 0), 135);
        e.due("bow 2", x.bow(2, 0, 0, 0), 135);
        e.due("nothing between them", x.dark(1, 2), 0);
        x.rule(1, -35);
        e.due("bow 2, beside", x.bow(2, 0, 0, 0), 134);
        e.due("nothing between neighbours", x.dark(1, 2), 0);
    }

    /** The bows of a and b, side by side, with a dark row next to them: none of it lies between them. */
    private static void beyond(int squash, int[] mirrors, int[] bows, int[] darkFromTo) {
        SunRings x = new SunRings();
        x.rule(2, 9);
        x.rule(1, squash);
        for (int n = 0; n < 2; n++) {
            e.due("SQUASH " + squash + ", bow of " + mirrors[n], x.bow(mirrors[n], 0, 0, 0), bows[n]);
            for (int degree = darkFromTo[0]; degree <= darkFromTo[1]; degree++) {
                e.due("dark at " + degree, x.map(mirrors[n], 0, degree), 0);
            }
        }
        e.due("SQUASH " + squash + ", dark", x.dark(mirrors[0], mirrors[1]), 0);
        e.due("SQUASH " + squash + ", either way", x.dark(mirrors[1], mirrors[0]), 0);
    }

    private static void darkBeyond() {
        e.says("that lies between their BOWS");
        beyond(-93, new int[] {2, 5}, new int[] {147, 148}, new int[] {149, 151});
        beyond(-59, new int[] {1, 5}, new int[] {132, 131}, new int[] {0, 130});
    }

    private static void darkNoAndBad() {
        e.says("BAD (a is b, too); NO: a BOW is not there.");
        SunRings x = new SunRings();
        e.due("five mirrors have none", x.dark(0, 5), SunRings.NO);
        e.due("either way", x.dark(5, 0), SunRings.NO);
        e.due("four mirrors have one", x.dark(0, 4), 2);
        e.due("4 and 4", x.dark(4, 4), SunRings.BAD);
        e.due("5 and 5: BAD is ahead of NO", x.dark(5, 5), SunRings.BAD);
        e.due("0 and 0", x.dark(0, 0), SunRings.BAD);
        for (int out : new int[] {-1, 6, Edges.LOW, Edges.HIGH}) {
            e.due("a " + out, x.dark(out, 1), SunRings.BAD);
            e.due("b " + out, x.dark(1, out), SunRings.BAD);
            e.due("BAD is ahead of NO, " + out, x.dark(out, 5), SunRings.BAD);
        }
        x.rule(2, 100);
        e.due("both have none", x.dark(0, 1), SunRings.NO);
    }
}
