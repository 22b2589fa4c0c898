import java.util.ArrayList;
import java.util.Arrays;
import java.util.HashMap;
import java.util.List;
import java.util.Map;

/**
 * The document told once more, as slowly and plainly as can be: no search but trying all,
 * nothing shared with SunRings. RandomRunsTest sets the two side by side.
 */
final class PlainRings {
    private static final int BAD = -1, NO = -2, FULL = -3, NONE = -4;

    private static final class Kept {
        int[][] tables = {
            {0, 75, 149, 221, 289, 352, 406, 450, 478, 488},
            {0, 76, 151, 224, 294, 358, 414, 458, 487, 498},
            {0, 66, 132, 195, 254, 307, 353, 388, 410, 418}};
        int fan = 4, squash = 0, shine = 5, skew = 3000, sway = 60;
        List<List<Integer>> wedges = new ArrayList<>();

        Kept() {
            for (int kind = 0; kind < 4; kind++) {
                wedges.add(new ArrayList<>());
            }
        }

        Kept copy() {
            Kept c = new Kept();
            for (int s = 0; s < 3; s++) {
                c.tables[s] = tables[s].clone();
            }
            c.fan = fan;
            c.squash = squash;
            c.shine = shine;
            c.skew = skew;
            c.sway = sway;
            for (int kind = 0; kind < 4; kind++) {
                c.wedges.set(kind, new ArrayList<>(wedges.get(kind)));
            }
            return c;
        }
    }

    private record Light(int form, int side, int from, int to) { }

    private record Mark(int form, int side, int angle, int doubt) { }

    private record Day(int cold, int cloud, int causes) { }

    private Kept now = new Kept();
    private final List<Kept> stack = new ArrayList<>();
    private final List<Mark> marks = new ArrayList<>();
    private final List<Day> days = new ArrayList<>();
    private final int[] places = new int[12];
    /** Trying all is dear: what a wedge's ring is by one table of ice, whole, is written down. */
    private final Map<String, Integer> rings = new HashMap<>();

    PlainRings() {
        Arrays.fill(places, -1);
    }

    private static boolean out(int v, int a, int b) {
        return v < a || v > b;
    }

    int table(int sort, int k, int v) {
        if (out(sort, 0, 2) || out(k, 1, 9) || out(v, 0, 100 * k)) return BAD;
        int[] t = now.tables[sort];
        if (v < t[k - 1]) return NO;
        if (k != 9 && v > t[k + 1]) return NO;
        int was = t[k];
        t[k] = v;
        return was;
    }

    int rule(int what, int v) {
        int was;
        switch (what) {
            case 0: if (out(v, 0, 20)) return -1000; was = now.fan; now.fan = v; return was;
            case 1: if (out(v, -100, 100)) return -1000; was = now.squash; now.squash = v; return was;
            case 2: if (out(v, 0, 100)) return -1000; was = now.shine; now.shine = v; return was;
            case 3: if (out(v, 500, 9000)) return -1000; was = now.skew; now.skew = v; return was;
            case 4: if (out(v, 0, 300)) return -1000; was = now.sway; now.sway = v; return was;
            default: return -1000;
        }
    }

    int inside(int sort, int colour, int i) {
        if (out(sort, 0, 2) || out(colour, 0, 3) || out(i, 0, 900)) return BAD;
        int[] t = now.tables[sort];
        int whole = i / 100, part = i - 100 * whole;
        int that = part == 0 ? t[whole] : (t[whole] * (100 - part) + t[whole + 1] * part) / 100;
        return that - that * now.fan * colour / 1000;
    }

    int outside(int sort, int colour, int r) {
        if (out(sort, 0, 2) || out(colour, 0, 3) || out(r, 0, 900)) return BAD;
        return leastOut(sort, colour, r);
    }

    private int leastOut(int sort, int colour, int r) {
        for (int i = 0; i <= 900; i++) {
            if (inside(sort, colour, i) >= r) return i;
        }
        return NONE;
    }

    int ray(int mirrors, int colour, int i, int what) {
        if (out(mirrors, 0, 5) || out(colour, 0, 3) || out(i, 0, 900) || out(what, 0, 4)) return -100000;
        int r = inside(0, colour, i);
        int turn = 2 * i - 2 * r;
        for (int k = 0; k < mirrors; k++) turn += 1800 - 2 * r + now.squash;
        int sun = turn;
        while (sun < 0) sun += 3600;
        while (sun > 3599) sun -= 3600;
        if (sun > 1800) sun = 3600 - sun;
        int light = i * (900 - i);
        int lost = light * now.shine / 100;
        int on = light - lost;
        for (int k = 0; k < mirrors; k++) {
            int back = on * now.shine / 100;
            lost += on - back;
            on = back;
        }
        int last = on * now.shine / 100;
        lost += last;
        return new int[] {turn, sun, light, on - last, lost}[what];
    }

    long map(int mirrors, int colour, int degree) {
        if (out(mirrors, 0, 5) || out(colour, 0, 3) || out(degree, 0, 180)) return BAD;
        return sky(mirrors, colour)[degree];
    }

    private long[] sky(int mirrors, int colour) {
        long[] sky = new long[181];
        for (int degree = 0; degree <= 180; degree++) {
            for (int i = 0; i <= 900; i += 5) {
                int sun = ray(mirrors, colour, i, 1);
                if (sun >= 10 * degree && sun <= 10 * degree + 9) sky[degree] += ray(mirrors, colour, i, 3);
            }
        }
        return sky;
    }

    private static int bowOf(long[] sky) {
        int best = NONE;
        long most = 0;
        for (int d = 0; d <= 180; d++) {
            if (sky[d] > most) {
                most = sky[d];
                best = d;
            }
        }
        return best;
    }

    int bow(int mirrors, int colour, int h, int what) {
        if (out(mirrors, 0, 5) || out(colour, 0, 3) || out(h, 0, 900) || out(what, 0, 2)) return -1000000;
        long[] sky = sky(mirrors, colour);
        int at = bowOf(sky);
        if (at == NONE) return what == 2 ? -100000 : NONE;
        if (what == 0) return at;
        if (what == 2) return 1800 - 10 * at - h < 0 ? -100000 : 1800 - 10 * at - h;
        int broad = 1;
        for (int d = at - 1; d >= 0 && 2 * sky[d] >= sky[at]; d--) broad++;
        for (int d = at + 1; d <= 180 && 2 * sky[d] >= sky[at]; d++) broad++;
        return broad;
    }

    int dark(int a, int b) {
        if (out(a, 0, 5) || out(b, 0, 5) || a == b) return BAD;
        long[] one = sky(a, 0), two = sky(b, 0);
        int x = bowOf(one), y = bowOf(two);
        if (x == NONE || y == NONE) return NO;
        int best = 0;
        for (int from = Math.min(x, y) + 1; from < Math.max(x, y); from++) {
            int to = from;
            while (to < Math.max(x, y) && one[to] == 0 && two[to] == 0) to++;
            best = Math.max(best, to - from);
        }
        return best;
    }

    int wedge(int kind, int w) {
        if (out(kind, 0, 3) || out(w, 200, 1200)) return BAD;
        List<Integer> has = now.wedges.get(kind);
        if (has.contains(w)) return NO;
        if (has.size() == 3) return FULL;
        has.add(w);
        return has.size();
    }

    int noWedges(int kind) {
        if (out(kind, 0, 3)) return BAD;
        int were = now.wedges.get(kind).size();
        now.wedges.get(kind).clear();
        return were;
    }

    int turned(int w, int colour, int i) {
        if (out(w, 200, 1200) || out(colour, 0, 3) || out(i, 0, 900)) return -100000;
        int s = w - inside(1, colour, i);
        if (s < 0) return -10000;
        int e = leastOut(1, colour, s);
        return e == NONE ? -10000 : i + e - w;
    }

    int ring(int w, int colour) {
        if (out(w, 200, 1200) || out(colour, 0, 3)) return -100000;
        int best = -10000;
        for (int i = 0; i <= 900; i++) {
            int t = turned(w, colour, i);
            if (t != -10000 && (best == -10000 || t < best)) best = t;
        }
        return best;
    }

    private List<Light> lights(int cause, int h) {
        List<Light> all = new ArrayList<>();
        List<Integer> has = now.wedges.get(cause / 4);
        int lean = cause % 4;
        for (int w : has) {
            int d = rings.computeIfAbsent(w + Arrays.toString(now.tables[1]), key -> ring(w, 0));
            if (d == -10000) continue;
            int d2 = d + d * h / now.skew;
            boolean spot = h <= 600 && d2 <= 1800;
            if (lean == 0) all.add(new Light(0, 0, d, d));
            if (lean == 1 && spot) all.add(new Light(2, 1, d2, d2));
            if (lean == 2 && h + d <= 900) all.add(new Light(1, 2, d, d));
            if (lean == 2 && h >= d) all.add(new Light(1, 3, d, d));
            if (lean == 3 && spot) all.add(new Light(2, 1, d, d2 + now.sway));
        }
        if (lean == 1 && has.contains(600)) all.add(new Light(2, 1, 1200, 1200));
        if (lean == 2 && has.contains(900)) all.add(new Light(2, 1, 1800, 1800));
        if (lean == 3) all.add(new Light(3, 1, 0, 1800));
        return all;
    }

    int light(int cause, int h, int i, int what) {
        if (out(cause, 0, 15) || out(h, 0, 900) || i < -1 || out(what, 0, 3)) return BAD;
        List<Light> all = lights(cause, h);
        if (i == -1) return all.size();
        if (i >= all.size()) return NONE;
        Light l = all.get(i);
        return new int[] {l.form, l.side, l.from, l.to}[what];
    }

    int mark(int form, int side, int angle, int doubt) {
        if (out(form, -1, 3) || out(side, -1, 3) || out(angle, 0, 1800) || out(doubt, 0, 200)) return BAD;
        if (marks.size() == 12) return FULL;
        marks.add(new Mark(form, side, angle, doubt));
        return marks.size();
    }

    int wipe() {
        int were = marks.size();
        marks.clear();
        return were;
    }

    private static boolean meets(Light l, Mark m) {
        if (m.form != -1 && m.form != l.form) return false;
        if (m.side != -1 && m.side != l.side) return false;
        return l.from - m.doubt <= m.angle && m.angle <= l.to + m.doubt;
    }

    /** For each cause the marks that it meets, as bits. */
    private int[] met(int h) {
        int[] met = new int[16];
        for (int c = 0; c < 16; c++) {
            for (Light l : lights(c, h)) {
                for (int m = 0; m < marks.size(); m++) {
                    if (meets(l, marks.get(m))) met[c] |= 1 << m;
                }
            }
        }
        return met;
    }

    private boolean covers(int[] met, int set) {
        int all = 0;
        for (int c = 0; c < 16; c++) {
            if ((set & 1 << c) != 0) all |= met[c];
        }
        return all == (1 << marks.size()) - 1;
    }

    int explains(int set, int h) {
        if (out(set, 0, 65535) || out(h, 0, 900)) return BAD;
        return covers(met(h), set) ? 1 : 0;
    }

    int fewest(int h) {
        if (out(h, 0, 900)) return BAD;
        int[] met = met(h);
        int best = NONE;
        for (int set = 0; set <= 65535; set++) {
            if (covers(met, set) && (best == NONE || Integer.bitCount(set) < Integer.bitCount(best))) best = set;
        }
        return best;
    }

    int owed(int set, int h) {
        if (out(set, 0, 65535) || out(h, 0, 900)) return BAD;
        int owed = 0;
        for (int c = 0; c < 16; c++) {
            if ((set & 1 << c) == 0) continue;
            for (Light l : lights(c, h)) {
                if (marks.stream().noneMatch(m -> meets(l, m))) owed++;
            }
        }
        return owed;
    }

    int never() {
        int never = (1 << marks.size()) - 1;
        for (int h = 0; h <= 900; h += 50) {
            for (int bits : met(h)) never &= ~bits;
        }
        return never;
    }

    int heights(int set, int i) {
        if (out(set, 0, 65535) || i < -1) return BAD;
        List<Integer> all = new ArrayList<>();
        for (int h = 0; h <= 900; h += 50) {
            if (explains(set, h) == 1) all.add(h);
        }
        if (i == -1) return all.size();
        return i < all.size() ? all.get(i) : NONE;
    }

    int cut(int place, int v) {
        if (out(place, 0, 11) || out(v, -1, 1)) return -100;
        int was = places[place];
        places[place] = v;
        return was;
    }

    int made(int set, int h) {
        if (out(set, 0, 65535) || out(h, 0, 900)) return BAD;
        for (int p = 0; p < 12; p++) {
            boolean met = false;
            for (int c = 0; c < 16; c++) {
                if ((set & 1 << c) == 0) continue;
                for (Light l : lights(c, h)) met |= meets(l, new Mark(2, 1, 150 * p, 75));
            }
            if (places[p] == 1 && !met || places[p] == 0 && met) return 0;
        }
        return 1;
    }

    int maker(int h) {
        if (out(h, 0, 900)) return BAD;
        for (int set = 1; set <= 65535; set++) {
            if (Integer.bitCount(set) <= 2 && made(set, h) == 1) return set;
        }
        return NONE;
    }

    int day(int cold, int cloud, int causes) {
        if (out(cold, -60, 40) || out(cloud, 0, 3) || out(causes, 0, 65535)) return BAD;
        if (days.size() == 60) return FULL;
        days.add(new Day(cold, cloud, causes));
        return days.size();
    }

    int odds(int cause, int a, int b, int cloud, int part) {
        if (out(cause, 0, 15) || out(a, -60, 40) || out(b, -60, 40) || a > b
                || out(cloud, -1, 3) || out(part, 0, 1)) return BAD;
        int with = 0, so = 0;
        for (Day d : days) {
            if (out(d.cold, a, b) || cloud != -1 && d.cloud != cloud) continue;
            so++;
            if ((d.causes & 1 << cause) != 0) with++;
        }
        if (so == 0) return NONE;
        int x = with, y = so;
        while (y != 0) {
            int t = x % y;
            x = y;
            y = t;
        }
        return part == 0 ? with / x : so / x;
    }

    int together(int a, int b) {
        if (out(a, 0, 15) || out(b, 0, 15) || a == b) return BAD;
        int both = 0;
        for (Day d : days) {
            if ((d.causes & 1 << a) != 0 && (d.causes & 1 << b) != 0) both++;
        }
        return both;
    }

    int keep() {
        if (stack.size() == 3) return FULL;
        stack.add(now.copy());
        return stack.size();
    }

    int back() {
        if (stack.isEmpty()) return NO;
        now = stack.remove(stack.size() - 1);
        return stack.size();
    }

    int count(int what) {
        int n = 0;
        switch (what) {
            case 0: for (List<Integer> w : now.wedges) n += w.size(); return n;
            case 1: return marks.size();
            case 2: return days.size();
            case 3: return stack.size();
            case 4: for (int p : places) n += p == -1 ? 0 : 1; return n;
            case 5:
                for (int c = 0; c < 16; c++) {
                    int bit = 1 << c;
                    if (days.stream().anyMatch(d -> (d.causes & bit) != 0)) n++;
                }
                return n;
            default: return BAD;
        }
    }
}
