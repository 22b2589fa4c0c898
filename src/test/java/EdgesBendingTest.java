/** The edges of TABLES, of INSIDE and OUTSIDE, and of the rules (promises 1 to 5), sentence by sentence. */
public final class EdgesBendingTest {
    private static final int[][] FIRST = {
        {0, 75, 149, 221, 289, 352, 406, 450, 478, 488},
        {0, 76, 151, 224, 294, 358, 414, 458, 487, 498},
        {0, 66, 132, 195, 254, 307, 353, 388, 410, 418}};
    private static Edges e;

    public static void main(String[] args) throws Exception {
        e = new Edges("EdgesBendingTest");
        sorts();
        firstTables();
        firstNumberStays();
        notLessThanAhead();
        notMoreThanBehind();
        lastHasNoneBehind();
        atMost();
        below();
        whatItWas();
        refusedTableStays();
        between();
        colours();
        fan();
        outsideLeast();
        outsideNone();
        outsideFlat();
        outsideEach();
        outsideBad();
        rulesFirst();
        rulesLeastAndMost();
        rulesBad();
        e.end();
    }

    private static void sorts() {
        e.says("SORTS 0, 1, 2 have a TABLE");
        SunRings x = new SunRings();
        for (int sort : new int[] {-1, 3, Edges.LOW, Edges.HIGH}) {
            e.due("table(" + sort + ", 1, 70)", x.table(sort, 1, 70), SunRings.BAD);
            e.due("inside(" + sort + ", 0, 0)", x.inside(sort, 0, 0), SunRings.BAD);
            e.due("outside(" + sort + ", 0, 0)", x.outside(sort, 0, 0), SunRings.BAD);
        }
        for (int sort = 0; sort <= 2; sort++) {
            e.due("table(" + sort + ", 1, 70)", x.table(sort, 1, 70), FIRST[sort][1]);
            e.due("inside(" + sort + ", 0, 100)", x.inside(sort, 0, 100), 70);
            e.due("outside(" + sort + ", 0, 70)", x.outside(sort, 0, 70), 100);
            for (int other = sort + 1; other <= 2; other++) {
                e.due("another sort's table", x.inside(other, 0, 100), FIRST[other][1]);
            }
        }
    }

    private static void firstTables() {
        SunRings x = new SunRings();
        String[] said = {
            "At first 0: 0, 75, 149, 221, 289, 352, 406, 450, 478, 488;",
            "1: 0, 76, 151, 224, 294, 358, 414, 458, 487, 498;",
            "2: 0, 66, 132, 195, 254, 307, 353, 388, 410, 418."};
        for (int sort = 0; sort <= 2; sort++) {
            e.says(said[sort]);
            for (int k = 0; k <= 9; k++) {
                e.due("inside(" + sort + ", 0, " + 100 * k + ")", x.inside(sort, 0, 100 * k), FIRST[sort][k]);
            }
        }
    }

    private static void firstNumberStays() {
        e.says("INSIDE at 0, 100, .. 900 (ten numbers, the first one 0");
        SunRings x = new SunRings();
        for (int sort = 0; sort <= 2; sort++) {
            e.due("inside at 0", x.inside(sort, 0, 0), 0);
        }
        e.says("INSIDE at 100 k (1 to 9) becomes v");
        for (int k : new int[] {0, 10, -1, 11, Edges.LOW, Edges.HIGH}) {
            e.due("table(0, " + k + ", 0)", x.table(0, k, 0), SunRings.BAD);
            e.due("table(2, " + k + ", 900)", x.table(2, k, 900), SunRings.BAD);
        }
        e.due("k 1", x.table(0, 1, 80), 75);
        e.due("k 1 became", x.inside(0, 0, 100), 80);
        e.due("k 9", x.table(0, 9, 480), 488);
        e.due("k 9 became", x.inside(0, 0, 900), 480);
    }

    private static void notLessThanAhead() {
        for (int sort = 0; sort <= 2; sort++) {
            for (int k = 2; k <= 9; k++) {
                SunRings x = new SunRings();
                int ahead = FIRST[sort][k - 1];
                e.says("NO: it would be less than the one ahead");
                e.due("one less, k " + k, x.table(sort, k, ahead - 1), SunRings.NO);
                e.due("0, k " + k, x.table(sort, k, 0), SunRings.NO);
                e.due("nothing changed, k " + k, x.inside(sort, 0, 100 * k), FIRST[sort][k]);
                e.says("none less than the one ahead");
                e.due("as much, k " + k, x.table(sort, k, ahead), FIRST[sort][k]);
                e.due("now so, k " + k, x.inside(sort, 0, 100 * k), ahead);
            }
        }
    }

    private static void notMoreThanBehind() {
        for (int sort = 0; sort <= 2; sort++) {
            for (int k = 2; k <= 8; k++) {
                SunRings x = new SunRings();
                int behind = FIRST[sort][k + 1];
                boolean told = behind + 1 <= 100 * k;
                e.says("or more than the one behind");
                e.due("one more, k " + k, x.table(sort, k, behind + 1), told ? SunRings.NO : SunRings.BAD);
                e.due("nothing changed, k " + k, x.inside(sort, 0, 100 * k), FIRST[sort][k]);
                if (behind <= 100 * k) {
                    e.due("as much, k " + k, x.table(sort, k, behind), FIRST[sort][k]);
                    e.due("now so, k " + k, x.inside(sort, 0, 100 * k), behind);
                }
            }
        }
        e.says("NO: it would be less than the one ahead, or more than the one behind.");
        SunRings low = Edges.bending(0, 40, 60, 60, 60, 60, 60, 60, 60, 60);
        e.due("k 1, one more than behind", low.table(0, 1, 61), SunRings.NO);
        e.due("k 1, as behind", low.table(0, 1, 60), 40);
    }

    private static void lastHasNoneBehind() {
        e.says("NO: it would be less than the one ahead, or more than the one behind.");
        for (int sort = 0; sort <= 2; sort++) {
            SunRings x = new SunRings();
            // The number behind the last of one sort would be the first of the next sort, 0.
            e.due("the last of sort " + sort, x.table(sort, 9, 900), FIRST[sort][9]);
            e.due("one more", x.table(sort, 9, 901), SunRings.BAD);
            e.due("as ahead", x.table(sort, 9, FIRST[sort][8]), 900);
            e.due("less than ahead", x.table(sort, 9, FIRST[sort][8] - 1), SunRings.NO);
        }
    }

    private static void atMost() {
        e.says("each 100 times its place at most");
        for (int sort = 0; sort <= 2; sort++) {
            SunRings x = new SunRings();
            for (int k = 9; k >= 1; k--) {
                e.due("one more than at most, k " + k, x.table(sort, k, 100 * k + 1), SunRings.BAD);
                e.due("nothing changed, k " + k, x.inside(sort, 0, 100 * k), FIRST[sort][k]);
                e.due("at most, k " + k, x.table(sort, k, 100 * k), FIRST[sort][k]);
                e.due("far more, k " + k, x.table(sort, k, Edges.HIGH), SunRings.BAD);
            }
            for (int i = 0; i <= 900; i += 90) {
                e.due("no bending at " + i, x.inside(sort, 0, i), i);
            }
        }
        e.says("Of several the first; nothing changes then.");
        SunRings x = new SunRings();
        e.due("more than at most and than the one behind", x.table(0, 1, 150), SunRings.BAD);
    }

    private static void below() {
        e.says("BAD: a number is none that is told");
        SunRings x = new SunRings();
        e.due("v -1", x.table(0, 1, -1), SunRings.BAD);
        e.due("v -1 further on", x.table(0, 5, -1), SunRings.BAD);
        e.due("v far below", x.table(0, 1, Edges.LOW), SunRings.BAD);
        e.due("v 0", x.table(0, 1, 0), 75);
        e.due("v 0 now so", x.inside(0, 0, 100), 0);
    }

    private static void whatItWas() {
        e.says("becomes v: what it was.");
        SunRings x = new SunRings();
        e.due("first", x.table(1, 4, 300), 294);
        e.due("second", x.table(1, 4, 290), 300);
        e.due("the same again", x.table(1, 4, 290), 290);
    }

    private static void refusedTableStays() {
        e.says("Of several the first; nothing changes then.");
        SunRings x = new SunRings();
        x.table(0, 3, 148);
        x.table(0, 3, 290);
        x.table(0, 3, 301);
        x.table(0, 3, -1);
        for (int k = 0; k <= 9; k++) {
            e.due("inside at " + 100 * k, x.inside(0, 0, 100 * k), FIRST[0][k]);
        }
    }

    private static void between() {
        e.says("Between two: in parts by how far, cut.");
        SunRings x = new SunRings();
        // From 0 to 75 in a hundred parts: 0.75, 1.5 .. 74.25.
        int[][] due = {{1, 0}, {2, 1}, {3, 2}, {4, 3}, {99, 74}, {100, 75},
            // From 75 to 149, 0.74 a part.
            {101, 75}, {102, 76}, {150, 112}, {199, 148}, {200, 149},
            // From 478 to 488, 0.1 a part.
            {801, 478}, {809, 478}, {810, 479}, {889, 486}, {890, 487}, {899, 487}, {900, 488}};
        for (int[] d : due) {
            e.due("inside(0, 0, " + d[0] + ")", x.inside(0, 0, d[0]), d[1]);
        }
        SunRings flat = Edges.bending(2, 50, 50, 51, 51, 51, 51, 51, 51, 900);
        int[][] flats = {{100, 50}, {150, 50}, {200, 50}, {299, 50}, {300, 51}, {800, 51}, {801, 59}, {899, 891}};
        for (int[] d : flats) {
            e.due("flat, inside(2, 0, " + d[0] + ")", flat.inside(2, 0, d[0]), d[1]);
        }
        e.says("INSIDE of an angle. BAD.");
        for (int i : new int[] {-1, 901, Edges.LOW, Edges.HIGH}) {
            e.due("inside(0, 0, " + i + ")", x.inside(0, 0, i), SunRings.BAD);
        }
    }

    private static void colours() {
        e.says("Of COLOUR c (0 to 3) INSIDE is that less (that times FAN times c by 1000, cut)");
        SunRings x = Edges.unbending(0);
        // With FAN 4: the first i for which i times 4 times c is 1000 at least, and the one below it.
        int[][] due = {{0, 900, 900}, {1, 249, 249}, {1, 250, 249}, {1, 499, 498}, {1, 500, 498}, {2, 124, 124},
            {2, 125, 124}, {2, 249, 248}, {2, 250, 248}, {3, 83, 83}, {3, 84, 83}, {3, 166, 165}, {3, 167, 165},
            {1, 900, 897}, {2, 900, 893}, {3, 900, 890}};
        for (int[] d : due) {
            e.due("inside(0, " + d[0] + ", " + d[1] + ")", x.inside(0, d[0], d[1]), d[2]);
        }
        for (int colour : new int[] {-1, 4, Edges.LOW, Edges.HIGH}) {
            e.due("inside, colour " + colour, x.inside(0, colour, 100), SunRings.BAD);
            e.due("outside, colour " + colour, x.outside(0, colour, 100), SunRings.BAD);
        }
        // Cut between two first: 83.9 is 83, from which colour 3 takes nothing yet.
        SunRings parts = Edges.bending(0, 83, 93, 93, 93, 93, 93, 93, 93, 93);
        e.due("83.9, colour 3", parts.inside(0, 3, 109), 83);
        e.due("84, colour 3", parts.inside(0, 3, 110), 83);
        e.due("85, colour 3", parts.inside(0, 3, 120), 84);
    }

    private static void fan() {
        e.says("FAN is 0 to 20 (4 at first)");
        SunRings x = Edges.unbending(0);
        e.due("21", x.rule(0, 21), -1000);
        e.due("-1", x.rule(0, -1), -1000);
        e.due("4 at first", x.rule(0, 20), 4);
        e.due("20, c 3, 900", x.inside(0, 3, 900), 846);
        e.due("20, c 3, 16", x.inside(0, 3, 16), 16);
        e.due("20, c 3, 17", x.inside(0, 3, 17), 16);
        e.due("20, c 0", x.inside(0, 0, 900), 900);
        e.due("20 was", x.rule(0, 0), 20);
        e.due("0, c 3", x.inside(0, 3, 900), 900);
        x.rule(0, 3);
        // 999 by 1000 is cut to nothing.
        e.due("3, c 3, 111", x.inside(0, 3, 111), 111);
        e.due("3, c 3, 112", x.inside(0, 3, 112), 111);
        x.rule(0, 20);
        e.due("20, c 1, 49", x.inside(0, 1, 49), 49);
        e.due("20, c 1, 50", x.inside(0, 1, 50), 49);
    }

    private static void outsideLeast() {
        e.says("the least i (0 to 900) whose INSIDE is r at least");
        SunRings x = new SunRings();
        int[][] due = {{0, 0}, {1, 2}, {2, 3}, {74, 99}, {75, 100}, {76, 102}, {148, 199}, {149, 200},
            {478, 800}, {479, 810}, {487, 890}, {488, 900}};
        for (int[] d : due) {
            e.due("outside(0, 0, " + d[0] + ")", x.outside(0, 0, d[0]), d[1]);
        }
        for (int sort = 0; sort <= 2; sort++) {
            for (int colour = 0; colour <= 3; colour += 3) {
                for (int r = 1; r <= 400; r += 57) {
                    int i = x.outside(sort, colour, r);
                    e.due("at least " + r, x.inside(sort, colour, i) >= r ? 1 : 0, 1);
                    e.due("one less is less than " + r, x.inside(sort, colour, i - 1) < r ? 1 : 0, 1);
                }
            }
        }
    }

    private static void outsideNone() {
        e.says("none, if there is none.");
        SunRings x = new SunRings();
        int[][] last = {{0, 0, 488}, {0, 3, 483}, {1, 0, 498}, {1, 1, 497}, {2, 0, 418}, {2, 3, 413}};
        for (int[] l : last) {
            e.due("the last of sort " + l[0], x.outside(l[0], l[1], l[2]), 900);
            e.due("one more", x.outside(l[0], l[1], l[2] + 1), SunRings.NONE);
            e.due("900", x.outside(l[0], l[1], 900), SunRings.NONE);
        }
        SunRings down = Edges.straightDown(2);
        e.due("all 0, r 0", down.outside(2, 0, 0), 0);
        e.due("all 0, r 1", down.outside(2, 0, 1), SunRings.NONE);
        SunRings un = Edges.unbending(2);
        e.due("no bending, 900", un.outside(2, 0, 900), 900);
        e.due("no bending, 899", un.outside(2, 0, 899), 899);
        e.due("no bending, colour 1, 897", un.outside(2, 1, 897), 900);
        e.due("no bending, colour 1, 898", un.outside(2, 1, 898), SunRings.NONE);
    }

    private static void outsideFlat() {
        e.says("the least i (0 to 900) whose INSIDE is r at least");
        SunRings x = Edges.bending(0, 50, 50, 50, 60, 60, 60, 60, 60, 70);
        e.due("a flat of 50", x.outside(0, 0, 50), 100);
        e.due("behind it", x.outside(0, 0, 51), 310);
        e.due("a flat of 60", x.outside(0, 0, 60), 400);
        e.due("behind it", x.outside(0, 0, 61), 810);
        e.due("the last", x.outside(0, 0, 70), 900);
        // INSIDE leaps by 9 an i: r that is met by no i exactly.
        SunRings leap = Edges.bending(0, 0, 0, 0, 0, 0, 0, 0, 0, 900);
        e.due("r 1", leap.outside(0, 0, 1), 801);
        e.due("r 9", leap.outside(0, 0, 9), 801);
        e.due("r 10", leap.outside(0, 0, 10), 802);
    }

    private static void outsideEach() {
        e.says("the least i (0 to 900) whose INSIDE is r at least");
        for (int from = 0; from <= 900; from += 300) {
            SunRings x = Edges.unbending(1);
            for (int r = from; r <= Math.min(900, from + 299); r++) {
                e.due("no bending, outside(1, 0, " + r + ")", x.outside(1, 0, r), r);
            }
        }
    }

    private static void outsideBad() {
        e.says("OUTSIDE of an angle (0 to 900). NONE; BAD.");
        SunRings x = new SunRings();
        for (int r : new int[] {-1, 901, Edges.LOW, Edges.HIGH}) {
            e.due("outside(0, 0, " + r + ")", x.outside(0, 0, r), SunRings.BAD);
        }
        e.due("r 0", x.outside(0, 0, 0), 0);
        e.due("r 900", x.outside(0, 0, 900), SunRings.NONE);
    }

    private static void rulesFirst() {
        String[] said = {"FAN is 0 to 20 (4 at first)", "SQUASH -100 to 100; 0 at first",
            "SHINE hundredths (0 to 100; 5 at first)", "SKEW 500 to 9000; 3000 at first", "SWAY (0 to 300; 60 at first)"};
        int[] first = {4, 0, 5, 3000, 60};
        SunRings x = new SunRings();
        for (int what = 0; what < 5; what++) {
            e.says(said[what]);
            e.due("rule(" + what + ", ..)", x.rule(what, first[what]), first[what]);
        }
    }

    private static void rulesLeastAndMost() {
        String[] said = {"FAN is 0 to 20", "SQUASH -100 to 100", "SHINE hundredths (0 to 100", "SKEW 500 to 9000",
            "SWAY (0 to 300"};
        int[] first = {4, 0, 5, 3000, 60}, least = {0, -100, 0, 500, 0}, most = {20, 100, 100, 9000, 300};
        for (int what = 0; what < 5; what++) {
            SunRings x = new SunRings();
            e.says(said[what]);
            for (int v : new int[] {least[what] - 1, most[what] + 1, Edges.LOW, Edges.HIGH}) {
                e.due("rule(" + what + ", " + v + ")", x.rule(what, v), -1000);
            }
            e.due("the first one stays", x.rule(what, least[what]), first[what]);
            e.due("one less", x.rule(what, least[what] - 1), -1000);
            e.due("the least", x.rule(what, most[what]), least[what]);
            e.due("one more", x.rule(what, most[what] + 1), -1000);
            e.due("the most", x.rule(what, first[what]), most[what]);
            for (int other = 0; other < 5; other++) {
                e.due("rule " + other + " stays", x.rule(other, first[other]), first[other]);
            }
        }
    }

    private static void rulesBad() {
        e.says("FAN (what = 0), SQUASH (1), SHINE (2), SKEW (3), SWAY (4): what it was. BAD answers -1000.");
        SunRings x = new SunRings();
        for (int what : new int[] {-1, 5, Edges.LOW, Edges.HIGH}) {
            for (int v : new int[] {0, 20, 500, 3000}) {
                e.due("rule(" + what + ", " + v + ")", x.rule(what, v), -1000);
            }
        }
        x.rule(1, -1);
        e.due("what it was is -1, not BAD", x.rule(1, 0), -1);
    }
}
