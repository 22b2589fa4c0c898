/** The edges of DAYS, of ODDS and TOGETHER, of what is KEPT and of counts (promises 25 to 30), sentence by sentence. */
public final class EdgesDaysTest {
    private static Edges e;

    public static void main(String[] args) throws Exception {
        e = new Edges("EdgesDaysTest");
        newObject();
        dayNumbers();
        daysSixty();
        oddsFromTo();
        oddsCloud();
        oddsLowestTerms();
        oddsNoneHasIt();
        oddsNoSuchDay();
        oddsBad();
        together();
        togetherBad();
        keptThree();
        backNothingKept();
        backLast();
        keptParts();
        keptWedges();
        notKept();
        backRings();
        counts();
        countNothing();
        countBad();
        lastCalls();
        e.end();
    }

    private static void newObject() {
        e.says("As told; no WEDGES, MARKS, DAYS.");
        SunRings x = new SunRings();
        for (int what = 0; what <= 5; what++) {
            e.due("count " + what, x.count(what), 0);
        }
        e.due("nothing kept", x.back(), SunRings.NO);
        e.due("no light of the drawing is owed", x.owed(65535 & ~0x8888, 0), 0);
        // Another object's state is its own.
        SunRings y = new SunRings();
        y.table(0, 1, 0);
        y.rule(4, 300);
        y.wedge(0, 600);
        y.mark(0, 0, 0, 0);
        y.day(0, 0, 1);
        y.keep();
        y.cut(0, 1);
        SunRings z = new SunRings();
        for (SunRings each : new SunRings[] {x, z}) {
            e.due("a table", each.inside(0, 0, 100), 75);
            e.due("a rule", each.rule(4, 60), 60);
            for (int what = 0; what <= 5; what++) {
                e.due("still none, " + what, each.count(what), 0);
            }
        }
    }

    private static void dayNumbers() {
        e.says("COLD (-60 to 40), CLOUD (0 to 3), CAUSES seen (bits)");
        SunRings x = new SunRings();
        int[] least = {-60, 0, 0}, most = {40, 3, 65535};
        for (int part = 0; part < 3; part++) {
            for (int v : new int[] {least[part] - 1, most[part] + 1, Edges.LOW, Edges.HIGH}) {
                int[] d = {0, 0, 1};
                d[part] = v;
                e.due("part " + part + " is " + v, x.day(d[0], d[1], d[2]), SunRings.BAD);
            }
            e.due("none was taken", x.count(2), 2 * part);
            int[] low = {0, 0, 1}, high = {0, 0, 1};
            low[part] = least[part];
            high[part] = most[part];
            e.due("least of part " + part, x.day(low[0], low[1], low[2]), 2 * part + 1);
            e.due("most of part " + part, x.day(high[0], high[1], high[2]), 2 * part + 2);
        }
    }

    private static void daysSixty() {
        e.says("DAYS, 60 at most");
        SunRings x = new SunRings();
        for (int n = 1; n <= 59; n++) {
            x.day(0, 0, 1);
        }
        e.due("the 60th", x.day(0, 0, 2), 60);
        e.due("the 61st", x.day(0, 0, 4), SunRings.FULL);
        e.due("the 61st was not taken", x.odds(2, -60, 40, -1, 0), 0);
        e.due("the 60th was", x.odds(1, -60, 40, -1, 1), 60);
        e.due("59 by 60", x.odds(0, -60, 40, -1, 0), 59);
        e.due("sixty", x.count(2), 60);
        e.due("causes", x.count(5), 2);
        e.says("A DAY: how many. BAD; FULL.");
        e.due("BAD is ahead of FULL", x.day(0, 4, 1), SunRings.BAD);
    }

    private static void oddsFromTo() {
        e.says("ODDS of a CAUSE for COLD from a to b and a CLOUD (-1: any): DAYS so with it by DAYS so");
        SunRings x = new SunRings();
        x.day(-20, 0, 1);
        x.day(-10, 0, 1);
        x.day(0, 0, 0);
        e.due("all, above", x.odds(0, -20, 0, -1, 0), 2);
        e.due("all, below", x.odds(0, -20, 0, -1, 1), 3);
        e.due("not -20", x.odds(0, -19, 0, -1, 1), 2);
        e.due("not 0", x.odds(0, -20, -1, -1, 1), 1);
        e.due("a is b", x.odds(0, 0, 0, -1, 0), 0);
        e.due("a is b, a day with it", x.odds(0, -10, -10, -1, 0), 1);
        e.due("between days", x.odds(0, -19, -11, -1, 0), SunRings.NONE);
        // Days with it that are one too cold or too warm have no part above, nor below.
        SunRings beside = new SunRings();
        beside.day(2, 0, 1);
        beside.day(3, 0, 1);
        beside.day(4, 0, 0);
        beside.day(5, 0, 1);
        e.due("3 to 4, above", beside.odds(0, 3, 4, -1, 0), 1);
        e.due("3 to 4, below", beside.odds(0, 3, 4, -1, 1), 2);
        e.due("4 alone, above", beside.odds(0, 4, 4, -1, 0), 0);
        SunRings ends = new SunRings();
        ends.day(-60, 0, 32768);
        ends.day(40, 0, 0);
        e.due("from -60 to 40", ends.odds(15, -60, 40, -1, 1), 2);
        e.due("from -59", ends.odds(15, -59, 40, -1, 1), 1);
        e.due("to 39", ends.odds(15, -60, 39, -1, 0), 1);
        e.due("-60 alone", ends.odds(15, -60, -60, -1, 0), 1);
        e.due("40 alone", ends.odds(15, 40, 40, -1, 0), 0);
    }

    private static void oddsCloud() {
        e.says("a CLOUD (-1: any)");
        SunRings x = new SunRings();
        x.day(0, 0, 1);
        x.day(0, 3, 1);
        x.day(0, 3, 0);
        e.due("any", x.odds(0, -60, 40, -1, 1), 3);
        e.due("0", x.odds(0, -60, 40, 0, 1), 1);
        e.due("3", x.odds(0, -60, 40, 3, 1), 2);
        e.due("1", x.odds(0, -60, 40, 1, 1), SunRings.NONE);
        e.due("2", x.odds(0, -60, 40, 2, 0), SunRings.NONE);
    }

    private static void oddsLowestTerms() {
        e.says("in lowest terms");
        SunRings x = new SunRings();
        for (int n = 1; n <= 60; n++) {
            // Cause c is seen on the last of each c + 2 days, cause 15 on all.
            int causes = 0;
            for (int c = 0; c < 15; c++) {
                causes |= n % (c + 2) == 0 ? 1 << c : 0;
            }
            x.day(0, 0, causes | 1 << 15);
        }
        int[][] due = {{0, 1, 2}, {1, 1, 3}, {4, 1, 6}, {5, 2, 15}, {6, 7, 60}, {7, 1, 10}, {9, 1, 12}, {11, 1, 15},
            {14, 1, 20}, {15, 1, 1}};
        for (int[] d : due) {
            e.due("cause " + d[0] + ", above", x.odds(d[0], -60, 40, -1, 0), d[1]);
            e.due("cause " + d[0] + ", below", x.odds(d[0], -60, 40, -1, 1), d[2]);
        }
    }

    private static void oddsNoneHasIt() {
        e.says("(0 by 1, if none has it)");
        SunRings x = new SunRings();
        for (int n = 0; n < 5; n++) {
            x.day(0, 0, 1);
        }
        e.due("above", x.odds(1, -60, 40, -1, 0), 0);
        e.due("below", x.odds(1, -60, 40, -1, 1), 1);
        x.day(0, 0, 2);
        e.due("one has it, above", x.odds(1, -60, 40, -1, 0), 1);
        e.due("one has it, below", x.odds(1, -60, 40, -1, 1), 6);
    }

    private static void oddsNoSuchDay() {
        e.says("none, if there is no such DAY.");
        SunRings x = new SunRings();
        for (int part = 0; part <= 1; part++) {
            e.due("no day at all, part " + part, x.odds(0, -60, 40, -1, part), SunRings.NONE);
        }
        x.day(5, 2, 1);
        e.due("colder", x.odds(0, -60, 4, -1, 1), SunRings.NONE);
        e.due("warmer", x.odds(0, 6, 40, -1, 1), SunRings.NONE);
        e.due("less cloud", x.odds(0, 5, 5, 1, 1), SunRings.NONE);
        e.due("more cloud", x.odds(0, 5, 5, 3, 1), SunRings.NONE);
        e.due("just so", x.odds(0, 5, 5, 2, 1), 1);
    }

    private static void oddsBad() {
        e.says("ODDS: above (part = 0), below (1). NONE; BAD.");
        SunRings x = new SunRings();
        x.day(0, 0, 1);
        int[] good = {0, 0, 0, -1, 0}, least = {0, -60, 0, -1, 0}, most = {15, 0, 40, 3, 1};
        for (int part = 0; part < 5; part++) {
            for (int v : new int[] {least[part], most[part]}) {
                int[] a = good.clone();
                a[part] = v;
                boolean bad = x.odds(a[0], a[1], a[2], a[3], a[4]) == SunRings.BAD;
                e.due("argument " + part + " may be " + v, bad ? 1 : 0, 0);
            }
            for (int v : new int[] {least[part] - 1, most[part] + 1, Edges.LOW, Edges.HIGH}) {
                int[] a = good.clone();
                a[part] = v;
                e.due("argument " + part + " is " + v, x.odds(a[0], a[1], a[2], a[3], a[4]), SunRings.BAD);
            }
        }
        e.due("a above b", x.odds(0, 1, 0, -1, 0), SunRings.BAD);
        e.due("b -61", x.odds(0, -60, -61, -1, 0), SunRings.BAD);
        e.due("a 41", x.odds(0, 41, 41, -1, 0), SunRings.BAD);
        e.due("BAD without any DAY", new SunRings().odds(16, -60, 40, -1, 0), SunRings.BAD);
    }

    private static void together() {
        e.says("TOGETHER are two CAUSES: DAYS with both.");
        SunRings x = new SunRings();
        e.due("no day", x.together(0, 15), 0);
        x.day(-60, 0, 1);
        x.day(40, 3, 32768);
        e.due("each alone", x.together(0, 15), 0);
        x.day(-60, 0, 32769);
        e.due("once", x.together(0, 15), 1);
        x.day(40, 3, 65535);
        e.due("twice, either way", x.together(15, 0), 2);
        e.due("others", x.together(7, 8), 1);
    }

    private static void togetherBad() {
        e.says("TOGETHER: DAYS. BAD (a is b, too).");
        SunRings x = new SunRings();
        x.day(0, 0, 65535);
        for (int c : new int[] {-1, 16, Edges.LOW, Edges.HIGH}) {
            e.due("a " + c, x.together(c, 0), SunRings.BAD);
            e.due("b " + c, x.together(0, c), SunRings.BAD);
            e.due("both " + c, x.together(c, c), SunRings.BAD);
        }
        e.due("0 and 0", x.together(0, 0), SunRings.BAD);
        e.due("15 and 15", x.together(15, 15), SunRings.BAD);
        e.due("0 and 15", x.together(0, 15), 1);
        e.due("14 and 15", x.together(14, 15), 1);
    }

    private static void keptThree() {
        e.says("KEPT are TABLES, FAN, SQUASH, SHINE, SKEW, SWAY and WEDGES; 3 at most.");
        SunRings x = new SunRings();
        for (int n = 1; n <= 3; n++) {
            x.rule(4, n);
            e.due("keep " + n, x.keep(), n);
        }
        x.rule(4, 4);
        e.says("KEPT: how many. FULL.");
        e.due("the fourth", x.keep(), SunRings.FULL);
        e.due("still three", x.count(3), 3);
        e.due("as it is", x.rule(4, 5), 4);
        e.due("back", x.back(), 2);
        e.due("the third, not the fourth", x.rule(4, 3), 3);
        e.due("room for one", x.keep(), 3);
        e.due("full again", x.keep(), SunRings.FULL);
    }

    private static void backNothingKept() {
        e.says("As KEPT last: how many are left. NO.");
        SunRings x = new SunRings();
        x.rule(4, 7);
        x.wedge(0, 600);
        e.due("nothing kept", x.back(), SunRings.NO);
        e.due("a rule stays", x.rule(4, 7), 7);
        e.due("a wedge stays", x.count(0), 1);
        x.keep();
        e.due("one kept", x.back(), 0);
        e.due("not twice", x.back(), SunRings.NO);
        e.due("none kept", x.count(3), 0);
    }

    private static void backLast() {
        e.says("As KEPT last: how many are left.");
        SunRings x = new SunRings();
        for (int n = 1; n <= 3; n++) {
            x.rule(3, 1000 * n);
            x.keep();
        }
        x.rule(3, 9000);
        for (int n = 3; n >= 1; n--) {
            e.due("left", x.back(), n - 1);
            e.due("as kept", x.rule(3, 8000), 1000 * n);
        }
        e.due("no more", x.back(), SunRings.NO);
        e.due("as it was", x.rule(3, 3000), 8000);
    }

    private static void keptParts() {
        e.says("KEPT are TABLES, FAN, SQUASH, SHINE, SKEW, SWAY and WEDGES");
        int[] first = {4, 0, 5, 3000, 60}, least = {0, -100, 0, 500, 0};
        int[] ones = {75, 76, 66}, nines = {488, 498, 418};
        SunRings x = new SunRings();
        x.wedge(0, 600);
        x.wedge(3, 300);
        x.keep();
        for (int what = 0; what < 5; what++) {
            x.rule(what, least[what]);
        }
        for (int sort = 0; sort < 3; sort++) {
            x.table(sort, 1, 1);
            x.table(sort, 9, 900);
        }
        x.noWedges(0);
        x.wedge(1, 700);
        x.wedge(3, 400);
        e.due("back", x.back(), 0);
        for (int what = 0; what < 5; what++) {
            e.due("rule " + what, x.rule(what, first[what]), first[what]);
        }
        for (int sort = 0; sort < 3; sort++) {
            e.due("table " + sort + " at 100", x.inside(sort, 0, 100), ones[sort]);
            e.due("table " + sort + " at 900", x.inside(sort, 0, 900), nines[sort]);
        }
        e.due("wedge 600", x.wedge(0, 600), SunRings.NO);
        e.due("wedge 300", x.wedge(3, 300), SunRings.NO);
        int[] many = {1, 0, 0, 1};
        for (int kind = 0; kind < 4; kind++) {
            e.due("wedges of " + kind, x.noWedges(kind), many[kind]);
        }
    }

    private static void keptWedges() {
        e.says("KEPT are TABLES, FAN, SQUASH, SHINE, SKEW, SWAY and WEDGES");
        SunRings x = new SunRings();
        for (int n = 0; n < 12; n++) {
            x.wedge(n / 3, 200 + 50 * n);
        }
        int[] rings = new int[12];
        for (int n = 0; n < 12; n++) {
            rings[n] = x.light(n / 3 * 4, 0, n % 3, 2);
            e.due("ring of wedge " + n, rings[n], x.ring(200 + 50 * n, 0));
        }
        x.keep();
        for (int kind = 0; kind < 4; kind++) {
            x.noWedges(kind);
        }
        for (int n = 0; n < 12; n++) {
            x.wedge(n / 3, 900 - 10 * n);
            e.due("another ring", x.light(n / 3 * 4, 0, n % 3, 2), x.ring(900 - 10 * n, 0));
        }
        x.back();
        for (int n = 0; n < 12; n++) {
            e.due("ring of wedge " + n, x.light(n / 3 * 4, 0, n % 3, 2), rings[n]);
            e.due("wedge " + n, x.wedge(n / 3, 200 + 50 * n), SunRings.NO);
        }
        // After a change of the table the rings come from the wedges again.
        x.table(1, 9, 499);
        x.table(1, 9, 498);
        for (int n = 0; n < 12; n++) {
            e.due("ring of wedge " + n + " anew", x.light(n / 3 * 4, 0, n % 3, 2), rings[n]);
        }
    }

    private static void notKept() {
        e.says("KEPT are TABLES, FAN, SQUASH, SHINE, SKEW, SWAY and WEDGES");
        SunRings x = new SunRings();
        x.mark(3, 1, 0, 0);
        x.cut(0, 1);
        x.day(0, 0, 1);
        x.keep();
        x.mark(0, 0, 0, 0);
        x.cut(0, 0);
        x.cut(11, 1);
        x.day(0, 0, 2);
        x.back();
        e.due("marks stay", x.count(1), 2);
        e.due("the second is never met", x.never(), 2);
        e.due("days stay", x.count(2), 2);
        e.due("causes seen stay", x.count(5), 2);
        e.due("places stay", x.count(4), 2);
        e.due("a place stays", x.cut(0, -1), 0);
        e.due("another stays", x.cut(11, -1), 1);
    }

    /** What is kept is as it was then, whatever is asked or changed since. */
    private static void backRings() {
        e.says("As KEPT last");
        SunRings x = new SunRings();
        x.wedge(0, 600);
        x.keep();
        x.table(1, 4, 300);
        e.due("another table, another ring", x.light(0, 0, 0, 2), 200);
        x.keep();
        x.noWedges(0);
        x.wedge(0, 900);
        e.due("another wedge", x.light(0, 0, 0, 2), x.ring(900, 0));
        x.back();
        e.due("600 by the second table", x.light(0, 0, 0, 2), 200);
        x.back();
        e.due("600 by the first table", x.light(0, 0, 0, 2), 219);
        x.table(1, 4, 300);
        e.due("by the second again", x.light(0, 0, 0, 2), 200);
    }

    private static void counts() {
        e.says("How many: 0 WEDGES, 1 MARKS, 2 DAYS, 3 KEPT, 4 places of THE CUT that are told, "
                + "5 different CAUSES seen on any DAY.");
        SunRings x = new SunRings();
        for (int n = 0; n < 12; n++) {
            x.wedge(n / 3, 300 + 50 * n);
            x.mark(0, 0, n, 0);
            x.cut(n, n % 2);
        }
        for (int n = 0; n < 60; n++) {
            x.day(0, 0, 1 << n % 16);
        }
        for (int n = 0; n < 3; n++) {
            x.keep();
        }
        int[] full = {12, 12, 60, 3, 12, 16};
        for (int what = 0; what <= 5; what++) {
            e.due("count " + what, x.count(what), full[what]);
        }
    }

    private static void countNothing() {
        e.says("4 places of THE CUT that are told, 5 different CAUSES seen on any DAY.");
        SunRings x = new SunRings();
        x.cut(0, 0);
        x.cut(1, 1);
        x.cut(2, -1);
        e.due("told 0 and 1, not the gap", x.count(4), 2);
        x.cut(0, -1);
        e.due("a gap again", x.count(4), 1);
        x.day(0, 0, 0);
        e.due("a day without causes", x.count(5), 0);
        x.day(0, 0, 32769);
        x.day(0, 0, 32769);
        e.due("the same two twice", x.count(5), 2);
        x.day(0, 0, 3);
        e.due("one more", x.count(5), 3);
    }

    private static void countBad() {
        e.says("5 different CAUSES seen on any DAY. BAD.");
        SunRings x = new SunRings();
        for (int what : new int[] {-1, 6, Edges.LOW, Edges.HIGH}) {
            e.due("count " + what, x.count(what), SunRings.BAD);
        }
    }

    private static void lastCalls() {
        e.says("An object is used for at most 512 calls after it has been made");
        SunRings x = new SunRings();
        x.wedge(0, 600);
        for (int n = 0; n < 254; n++) {
            x.keep();
            x.back();
        }
        e.due("the 510th call", x.ring(600, 0), 219);
        e.due("the 511th call", x.light(0, 0, 0, 2), 219);
        e.due("the 512th call", x.count(0), 1);
    }
}
