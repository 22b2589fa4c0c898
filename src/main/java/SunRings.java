import java.util.Arrays;

/** Bows and rings about the sun; ../shared/DOC.md tells what each call answers. */
public final class SunRings {
    public static final int BAD = -1, NO = -2, FULL = -3, NONE = -4;

    private static final int BAD_RULE = -1000, BAD_RAY = -100000, BAD_BOW = -1000000;
    private static final int NO_TOP = -100000, BAD_TURN = -100000, LOST_INSIDE = -10000, BAD_CUT = -100;

    private static final int DROP = 0, ICE = 1, SORTS = 3, TABLE = 10, COLOURS = 4;
    private static final int RIGHT = 900, HALF = 1800, WHOLE = 3600;
    private static final int[] TABLES_FIRST = {
        0, 75, 149, 221, 289, 352, 406, 450, 478, 488,
        0, 76, 151, 224, 294, 358, 414, 458, 487, 498,
        0, 66, 132, 195, 254, 307, 353, 388, 410, 418};

    private static final int FAN = 0, SQUASH = 1, SHINE = 2, SKEW = 3, SWAY = 4, RULES = 5;
    private static final int[] RULES_FIRST = {4, 0, 5, 3000, 60};
    private static final int[] RULES_LEAST = {0, -100, 0, 500, 0};
    private static final int[] RULES_MOST = {20, 100, 100, 9000, 300};

    private static final int MIRRORS = 6, DEGREES = 181, RAY_STEP = 5;

    private static final int KINDS = 4, WEDGES = 3, WEDGE_LEAST = 200, WEDGE_MOST = 1200;
    private static final int ANY_WAY = 0, LYING = 1, LEVEL = 2, SWAYING = 3, LEANS = 4, CAUSES = 16;
    private static final int RING = 0, ARC = 1, SPOT = 2, CIRCLE = 3;
    private static final int ALL_ROUND = 0, BESIDE = 1, ABOVE = 2, BELOW = 3;
    private static final int FORM = 0, SIDE = 1, FROM = 2, TO = 3, ANGLE = 2, DOUBT = 3, PARTS = 4;
    private static final int LIGHTS = 7, SPOT_HEIGHT = 600, UNKNOWN = -1;

    private static final int MARKS = 12, UNCLEAR = -1, DOUBT_MOST = 200, HEIGHT_STEP = 50;
    private static final int ALL_CAUSES = 65535, ONE_MORE = 65536, UNREACHED = 99 * ONE_MORE;
    private static final int PLACES = 12, PLACE_STEP = 150, PLACE_DOUBT = 75;
    private static final int SUN = 1, NO_SUN = 0, GAP = -1;

    private static final int DAYS = 60, COLD_LEAST = -60, COLD_MOST = 40, CLOUD_MOST = 3, ANY_CLOUD = -1;
    private static final int KEPT = 3;

    private final Setup setup;
    private final Setup[] kept;
    private int keptSize;
    private final Drops drops;
    private final Ice ice;
    private final Drawing drawing;
    private final Cut sights;
    private final Diary diary;

    public SunRings() {
        setup = new Setup();
        kept = new Setup[KEPT];
        for (int n = 0; n < KEPT; n++) {
            kept[n] = new Setup();
        }
        keptSize = 0;
        drops = new Drops(setup);
        ice = new Ice(setup);
        drawing = new Drawing(ice);
        sights = new Cut(ice);
        diary = new Diary();
    }

    // ---- bending

    public int table(int sort, int k, int v) {
        if (!within(sort, 0, SORTS - 1) || !within(k, 1, TABLE - 1) || !within(v, 0, 100 * k)) {
            return BAD;
        }
        return setup.changeTable(sort, k, v);
    }

    public int rule(int what, int v) {
        if (!within(what, 0, RULES - 1) || !within(v, RULES_LEAST[what], RULES_MOST[what])) {
            return BAD_RULE;
        }
        int was = setup.rules[what];
        setup.rules[what] = v;
        return was;
    }

    public int inside(int sort, int colour, int i) {
        if (!within(sort, 0, SORTS - 1) || !isColour(colour) || !isRight(i)) {
            return BAD;
        }
        return setup.bent(sort, colour, i);
    }

    public int outside(int sort, int colour, int r) {
        if (!within(sort, 0, SORTS - 1) || !isColour(colour) || !isRight(r)) {
            return BAD;
        }
        return setup.unbent(sort, colour, r);
    }

    // ---- drops

    public int ray(int mirrors, int colour, int i, int what) {
        if (!isMirrors(mirrors) || !isColour(colour) || !isRight(i) || !within(what, 0, 4)) {
            return BAD_RAY;
        }
        switch (what) {
            case 0:
                return drops.turnOf(mirrors, colour, i);
            case 1:
                return drops.fromSun(mirrors, colour, i);
            case 2:
                return drops.lightIn(i);
            case 3:
                return drops.lightOut(mirrors, i);
            default:
                return drops.lightIn(i) - drops.lightOut(mirrors, i);
        }
    }

    public long map(int mirrors, int colour, int degree) {
        if (!isMirrors(mirrors) || !isColour(colour) || !within(degree, 0, DEGREES - 1)) {
            return BAD;
        }
        drops.fillSky(drops.sky, mirrors, colour);
        return drops.sky[degree];
    }

    public int bow(int mirrors, int colour, int h, int what) {
        if (!isMirrors(mirrors) || !isColour(colour) || !isRight(h) || !within(what, 0, 2)) {
            return BAD_BOW;
        }
        drops.fillSky(drops.sky, mirrors, colour);
        int degree = drops.brightest(drops.sky);
        if (what == 2) {
            int top = HALF - 10 * degree - h;
            return degree == NONE || top < 0 ? NO_TOP : top;
        }
        return degree == NONE || what == 0 ? degree : drops.broad(drops.sky, degree);
    }

    public int dark(int a, int b) {
        if (!isMirrors(a) || !isMirrors(b) || a == b) {
            return BAD;
        }
        return drops.widestDark(a, b);
    }

    // ---- ice

    public int wedge(int kind, int w) {
        if (!within(kind, 0, KINDS - 1) || !within(w, WEDGE_LEAST, WEDGE_MOST)) {
            return BAD;
        }
        return setup.addWedge(kind, w);
    }

    public int noWedges(int kind) {
        if (!within(kind, 0, KINDS - 1)) {
            return BAD;
        }
        int were = setup.wedgeCounts[kind];
        setup.wedgeCounts[kind] = 0;
        return were;
    }

    public int turned(int w, int colour, int i) {
        if (!within(w, WEDGE_LEAST, WEDGE_MOST) || !isColour(colour) || !isRight(i)) {
            return BAD_TURN;
        }
        return ice.turnOf(w, colour, i);
    }

    public int ring(int w, int colour) {
        if (!within(w, WEDGE_LEAST, WEDGE_MOST) || !isColour(colour)) {
            return BAD_TURN;
        }
        return ice.leastTurn(w, colour);
    }

    public int light(int cause, int h, int i, int what) {
        if (!isCause(cause) || !isRight(h) || i < -1 || !within(what, 0, PARTS - 1)) {
            return BAD;
        }
        ice.lightUp(cause, h);
        if (i == -1) {
            return ice.lights.size;
        }
        return i < ice.lights.size ? ice.lights.part(i, what) : NONE;
    }

    // ---- drawings

    public int mark(int form, int side, int angle, int doubt) {
        if (!within(form, UNCLEAR, CIRCLE) || !within(side, UNCLEAR, BELOW)
                || !within(angle, 0, HALF) || !within(doubt, 0, DOUBT_MOST)) {
            return BAD;
        }
        return drawing.addMark(form, side, angle, doubt);
    }

    public int wipe() {
        int were = drawing.size;
        drawing.size = 0;
        return were;
    }

    public int explains(int set, int h) {
        if (!isSet(set) || !isRight(h)) {
            return BAD;
        }
        return drawing.isExplained(set, h) ? 1 : 0;
    }

    public int fewest(int h) {
        if (!isRight(h)) {
            return BAD;
        }
        return drawing.leastCover(h);
    }

    public int owed(int set, int h) {
        if (!isSet(set) || !isRight(h)) {
            return BAD;
        }
        return drawing.unseen(set, h);
    }

    public int never() {
        return drawing.marksNeverMet();
    }

    public int heights(int set, int i) {
        if (!isSet(set) || i < -1) {
            return BAD;
        }
        int found = 0;
        for (int h = 0; h <= RIGHT; h += HEIGHT_STEP) {
            if (drawing.isExplained(set, h)) {
                if (found == i) {
                    return h;
                }
                found++;
            }
        }
        return i == -1 ? found : NONE;
    }

    public int cut(int place, int v) {
        if (!within(place, 0, PLACES - 1) || !within(v, GAP, SUN)) {
            return BAD_CUT;
        }
        int was = sights.places[place];
        sights.places[place] = v;
        return was;
    }

    public int made(int set, int h) {
        if (!isSet(set) || !isRight(h)) {
            return BAD;
        }
        return sights.isMade(set, h) ? 1 : 0;
    }

    public int maker(int h) {
        if (!isRight(h)) {
            return BAD;
        }
        return sights.firstMaker(h);
    }

    // ---- days

    public int day(int cold, int cloud, int causes) {
        if (!isCold(cold) || !within(cloud, 0, CLOUD_MOST) || !isSet(causes)) {
            return BAD;
        }
        return diary.addDay(cold, cloud, causes);
    }

    public int odds(int cause, int a, int b, int cloud, int part) {
        if (!isCause(cause) || !isCold(a) || !isCold(b) || a > b
                || !within(cloud, ANY_CLOUD, CLOUD_MOST) || !within(part, 0, 1)) {
            return BAD;
        }
        int all = diary.daysWith(0, a, b, cloud);
        if (all == 0) {
            return NONE;
        }
        int seen = diary.daysWith(1 << cause, a, b, cloud);
        if (seen == 0) {
            return part;
        }
        return (part == 0 ? seen : all) / commonDivisor(seen, all);
    }

    public int together(int a, int b) {
        if (!isCause(a) || !isCause(b) || a == b) {
            return BAD;
        }
        return diary.daysWith((1 << a) | (1 << b), COLD_LEAST, COLD_MOST, ANY_CLOUD);
    }

    public int keep() {
        if (keptSize >= KEPT) {
            return FULL;
        }
        kept[keptSize].copyFrom(setup);
        keptSize++;
        return keptSize;
    }

    public int back() {
        if (keptSize <= 0) {
            return NO;
        }
        keptSize--;
        setup.copyFrom(kept[keptSize]);
        return keptSize;
    }

    public int count(int what) {
        switch (what) {
            case 0:
                return setup.wedgesInAll();
            case 1:
                return drawing.size;
            case 2:
                return diary.size;
            case 3:
                return keptSize;
            case 4:
                return Integer.bitCount(sights.placesTold(SUN) | sights.placesTold(NO_SUN));
            case 5:
                return Integer.bitCount(diary.causesSeen());
            default:
                return BAD;
        }
    }

    // ---- what a number may be

    private static boolean within(int v, int least, int most) {
        return v >= least && v <= most;
    }

    /** Angles of incidence, angles inside and heights of the sun all go from 0 to 900. */
    private static boolean isRight(int angle) {
        return within(angle, 0, RIGHT);
    }

    private static boolean isColour(int colour) {
        return within(colour, 0, COLOURS - 1);
    }

    private static boolean isMirrors(int mirrors) {
        return within(mirrors, 0, MIRRORS - 1);
    }

    private static boolean isCause(int cause) {
        return within(cause, 0, CAUSES - 1);
    }

    private static boolean isSet(int set) {
        return within(set, 0, ALL_CAUSES);
    }

    private static boolean isCold(int cold) {
        return within(cold, COLD_LEAST, COLD_MOST);
    }

    /** The greatest number that divides both; seen and all are 1 to 60, so counting down is cheap. */
    private static int commonDivisor(int seen, int all) {
        for (int n = seen; n > 1; n--) {
            if (seen % n == 0 && all % n == 0) {
                return n;
            }
        }
        return 1;
    }

    /** All that is KEPT: TABLES, rules and WEDGES, and the rings of these as far as they are known. */
    private static final class Setup {
        final int[] tables = TABLES_FIRST.clone();
        final int[] rules = RULES_FIRST.clone();
        final int[] wedges = new int[KINDS * WEDGES];
        final int[] wedgeCounts = new int[KINDS];
        /** Kept with the wedges, since a ring costs many rays; UNKNOWN until it is asked for. */
        final int[] rings = new int[KINDS * WEDGES];

        void copyFrom(Setup other) {
            System.arraycopy(other.tables, 0, tables, 0, SORTS * TABLE);
            System.arraycopy(other.rules, 0, rules, 0, RULES);
            System.arraycopy(other.wedges, 0, wedges, 0, KINDS * WEDGES);
            System.arraycopy(other.wedgeCounts, 0, wedgeCounts, 0, KINDS);
            System.arraycopy(other.rings, 0, rings, 0, KINDS * WEDGES);
        }

        int changeTable(int sort, int k, int v) {
            int at = sort * TABLE + k;
            if (v < tables[at - 1] || (k < TABLE - 1 && v > tables[at + 1])) {
                return NO;
            }
            int was = tables[at];
            tables[at] = v;
            if (sort == ICE) {
                Arrays.fill(rings, UNKNOWN);
            }
            return was;
        }

        int bent(int sort, int colour, int i) {
            int at = sort * TABLE + i / 100;
            int plain = tables[at];
            if (i < RIGHT) {
                plain += (tables[at + 1] - plain) * (i % 100) / 100;
            }
            return plain - plain * rules[FAN] * colour / 1000;
        }

        /** INSIDE never falls as i grows, so the angles that fall short of r are the lowest ones. */
        int unbent(int sort, int colour, int r) {
            int tooLow = 0;
            for (int step = 512; step > 0; step /= 2) {
                int next = tooLow + step;
                if (next <= RIGHT + 1 && bent(sort, colour, next - 1) < r) {
                    tooLow = next;
                }
            }
            return tooLow <= RIGHT ? tooLow : NONE;
        }

        boolean hasWedge(int kind, int w) {
            for (int n = 0; n < wedgeCounts[kind]; n++) {
                if (wedges[kind * WEDGES + n] == w) {
                    return true;
                }
            }
            return false;
        }

        int addWedge(int kind, int w) {
            if (hasWedge(kind, w)) {
                return NO;
            }
            int had = wedgeCounts[kind];
            if (had >= WEDGES) {
                return FULL;
            }
            wedges[kind * WEDGES + had] = w;
            rings[kind * WEDGES + had] = UNKNOWN;
            wedgeCounts[kind] = had + 1;
            return had + 1;
        }

        int wedgesInAll() {
            int all = 0;
            for (int kind = 0; kind < KINDS; kind++) {
                all += wedgeCounts[kind];
            }
            return all;
        }
    }

    /** Rays through drops, and the maps of the sky that they sum to. */
    private static final class Drops {
        private final Setup setup;
        final long[] sky = new long[DEGREES];
        private final long[] otherSky = new long[DEGREES];

        Drops(Setup setup) {
            this.setup = setup;
        }

        int turnOf(int mirrors, int colour, int i) {
            int r = setup.bent(DROP, colour, i);
            return 2 * i - 2 * r + mirrors * (HALF - 2 * r + setup.rules[SQUASH]);
        }

        int fromSun(int mirrors, int colour, int i) {
            int round = Math.floorMod(turnOf(mirrors, colour, i), WHOLE);
            return round > HALF ? WHOLE - round : round;
        }

        int lightIn(int i) {
            return i * (RIGHT - i);
        }

        int lightOut(int mirrors, int i) {
            int goesOn = lightIn(i);
            goesOn -= thrownBack(goesOn);
            for (int k = 0; k < mirrors; k++) {
                goesOn = thrownBack(goesOn);
            }
            return goesOn - thrownBack(goesOn);
        }

        private int thrownBack(int comes) {
            return comes * setup.rules[SHINE] / 100;
        }

        void fillSky(long[] row, int mirrors, int colour) {
            Arrays.fill(row, 0L);
            for (int i = 0; i <= RIGHT; i += RAY_STEP) {
                row[fromSun(mirrors, colour, i) / 10] += lightOut(mirrors, i);
            }
        }

        int brightest(long[] row) {
            int best = 0;
            for (int degree = 1; degree < DEGREES; degree++) {
                if (row[degree] > row[best]) {
                    best = degree;
                }
            }
            return row[best] > 0 ? best : NONE;
        }

        int broad(long[] row, int degree) {
            int first = degree;
            while (first > 0 && 2 * row[first - 1] >= row[degree]) {
                first--;
            }
            int last = degree;
            while (last < DEGREES - 1 && 2 * row[last + 1] >= row[degree]) {
                last++;
            }
            return last - first + 1;
        }

        int widestDark(int a, int b) {
            fillSky(sky, a, 0);
            fillSky(otherSky, b, 0);
            int bowA = brightest(sky);
            int bowB = brightest(otherSky);
            if (bowA == NONE || bowB == NONE) {
                return NO;
            }
            int widest = 0;
            int row = 0;
            for (int degree = Math.min(bowA, bowB); degree <= Math.max(bowA, bowB); degree++) {
                row = sky[degree] == 0 && otherSky[degree] == 0 ? row + 1 : 0;
                widest = Math.max(widest, row);
            }
            return widest;
        }
    }

    /** The LIGHTS of one cause, each by its form, side, from and to. */
    private static final class Lights {
        private final int[] rows = new int[LIGHTS * PARTS];
        int size;

        void add(int form, int side, int from, int to) {
            if (size >= LIGHTS) {
                return;
            }
            rows[size * PARTS + FORM] = form;
            rows[size * PARTS + SIDE] = side;
            rows[size * PARTS + FROM] = from;
            rows[size * PARTS + TO] = to;
            size++;
        }

        int part(int i, int what) {
            return rows[i * PARTS + what];
        }

        boolean isNear(int i, int angle, int doubt) {
            return angle >= part(i, FROM) - doubt && angle <= part(i, TO) + doubt;
        }
    }

    /** Rays through wedges of ice, and the lights of a cause. */
    private static final class Ice {
        private final Setup setup;
        final Lights lights = new Lights();

        Ice(Setup setup) {
            this.setup = setup;
        }

        int turnOf(int w, int colour, int i) {
            int s = w - setup.bent(ICE, colour, i);
            if (s < 0) {
                return LOST_INSIDE;
            }
            int e = setup.unbent(ICE, colour, s);
            return e == NONE ? LOST_INSIDE : i + e - w;
        }

        /** As i grows, s and its OUTSIDE only fall: so e is led down beside i, not sought anew. */
        int leastTurn(int w, int colour) {
            int least = LOST_INSIDE;
            int e = RIGHT + 1;
            for (int i = 0; i <= RIGHT; i++) {
                int s = w - setup.bent(ICE, colour, i);
                if (s < 0) {
                    break;
                }
                while (e > 0 && setup.bent(ICE, colour, e - 1) >= s) {
                    e--;
                }
                if (e <= RIGHT && (least == LOST_INSIDE || i + e - w < least)) {
                    least = i + e - w;
                }
            }
            return least;
        }

        /** Fills the lights with those of a cause, the sun at h. */
        void lightUp(int cause, int h) {
            int kind = cause / LEANS;
            int lean = cause % LEANS;
            lights.size = 0;
            for (int n = 0; n < setup.wedgeCounts[kind]; n++) {
                int slot = kind * WEDGES + n;
                if (setup.rings[slot] == UNKNOWN) {
                    setup.rings[slot] = leastTurn(setup.wedges[slot], 0);
                }
                int d = setup.rings[slot];
                if (d == LOST_INSIDE) {
                    continue;
                }
                if (lean == ANY_WAY) {
                    lights.add(RING, ALL_ROUND, d, d);
                } else if (lean == LEVEL) {
                    addArcs(d, h);
                } else {
                    addSpot(lean, d, h);
                }
            }
            addLightsBehind(kind, lean);
        }

        private void addArcs(int d, int h) {
            if (h + d <= RIGHT) {
                lights.add(ARC, ABOVE, d, d);
            }
            if (h >= d) {
                lights.add(ARC, BELOW, d, d);
            }
        }

        private void addSpot(int lean, int d, int h) {
            int skew = Math.max(RULES_LEAST[SKEW], setup.rules[SKEW]);
            int d2 = d + d * h / skew;
            if (h > SPOT_HEIGHT || d2 > HALF) {
                return;
            }
            if (lean == LYING) {
                lights.add(SPOT, BESIDE, d2, d2);
            } else {
                lights.add(SPOT, BESIDE, d, d2 + setup.rules[SWAY]);
            }
        }

        private void addLightsBehind(int kind, int lean) {
            if (lean == LYING && setup.hasWedge(kind, 600)) {
                lights.add(SPOT, BESIDE, 1200, 1200);
            } else if (lean == LEVEL && setup.hasWedge(kind, 900)) {
                lights.add(SPOT, BESIDE, HALF, HALF);
            } else if (lean == SWAYING) {
                lights.add(CIRCLE, BESIDE, 0, HALF);
            }
        }
    }

    /** The MARKS of a drawing, and the causes that meet them. */
    private static final class Drawing {
        private final Ice ice;
        private final int[] marks = new int[MARKS * PARTS];
        int size;
        /** By marks met (as bits): the fewest causes that meet just these, times 65536, and their bits. */
        private final int[] covers = new int[1 << MARKS];

        Drawing(Ice ice) {
            this.ice = ice;
        }

        int addMark(int form, int side, int angle, int doubt) {
            if (size >= MARKS) {
                return FULL;
            }
            marks[size * PARTS + FORM] = form;
            marks[size * PARTS + SIDE] = side;
            marks[size * PARTS + ANGLE] = angle;
            marks[size * PARTS + DOUBT] = doubt;
            size++;
            return size;
        }

        private int allMarks() {
            return (1 << size) - 1;
        }

        private boolean meets(int light, int m) {
            int form = marks[m * PARTS + FORM];
            int side = marks[m * PARTS + SIDE];
            return (form == UNCLEAR || form == ice.lights.part(light, FORM))
                    && (side == UNCLEAR || side == ice.lights.part(light, SIDE))
                    && ice.lights.isNear(light, marks[m * PARTS + ANGLE], marks[m * PARTS + DOUBT]);
        }

        private boolean meetsAny(int light) {
            for (int m = 0; m < size; m++) {
                if (meets(light, m)) {
                    return true;
                }
            }
            return false;
        }

        /** Those of the asked marks (as bits) that a light of the cause at h meets. */
        private int marksMet(int cause, int h, int asked) {
            ice.lightUp(cause, h);
            int met = 0;
            for (int light = 0; light < ice.lights.size; light++) {
                for (int m = 0; m < size; m++) {
                    if ((asked >> m & 1) == 1 && meets(light, m)) {
                        met |= 1 << m;
                    }
                }
            }
            return met;
        }

        /** Those of the asked marks that no cause of a set meets at h. */
        private int marksLeft(int set, int h, int asked) {
            int left = asked;
            for (int cause = 0; cause < CAUSES && left != 0; cause++) {
                if ((set >> cause & 1) == 1) {
                    left &= ~marksMet(cause, h, left);
                }
            }
            return left;
        }

        boolean isExplained(int set, int h) {
            return marksLeft(set, h, allMarks()) == 0;
        }

        int marksNeverMet() {
            int left = allMarks();
            for (int h = 0; h <= RIGHT && left != 0; h += HEIGHT_STEP) {
                left = marksLeft(ALL_CAUSES, h, left);
            }
            return left;
        }

        int unseen(int set, int h) {
            int unmet = 0;
            for (int cause = 0; cause < CAUSES; cause++) {
                if ((set >> cause & 1) == 1) {
                    ice.lightUp(cause, h);
                    for (int light = 0; light < ice.lights.size; light++) {
                        unmet += meetsAny(light) ? 0 : 1;
                    }
                }
            }
            return unmet;
        }

        int leastCover(int h) {
            int all = allMarks();
            for (int met = 0; met <= all; met++) {
                covers[met] = met == 0 ? 0 : UNREACHED;
            }
            for (int cause = 0; cause < CAUSES; cause++) {
                int met = marksMet(cause, h, all);
                if (met != 0) {
                    coverWith(cause, met, all);
                }
            }
            return covers[all] == UNREACHED ? NONE : covers[all] & ALL_CAUSES;
        }

        /** From the most marks down, so that no cover takes the same cause twice. */
        private void coverWith(int cause, int met, int all) {
            int price = ONE_MORE + (1 << cause);
            for (int had = all; had >= 0; had--) {
                if (covers[had] != UNREACHED) {
                    covers[had | met] = Math.min(covers[had | met], covers[had] + price);
                }
            }
        }
    }

    /** THE CUT: places beside the sun, told or gaps. */
    private static final class Cut {
        private final Ice ice;
        final int[] places = new int[PLACES];
        private final int[] metBy = new int[CAUSES];

        Cut(Ice ice) {
            this.ice = ice;
            Arrays.fill(places, GAP);
        }

        /** The places that are told v, as bits. */
        int placesTold(int v) {
            int told = 0;
            for (int p = 0; p < PLACES; p++) {
                if (places[p] == v) {
                    told |= 1 << p;
                }
            }
            return told;
        }

        private int placesMet(int cause, int h) {
            ice.lightUp(cause, h);
            int met = 0;
            for (int light = 0; light < ice.lights.size; light++) {
                if (ice.lights.part(light, FORM) == SPOT && ice.lights.part(light, SIDE) == BESIDE) {
                    met |= placesNear(light);
                }
            }
            return met;
        }

        private int placesNear(int light) {
            int near = 0;
            for (int p = 0; p < PLACES; p++) {
                if (ice.lights.isNear(light, PLACE_STEP * p, PLACE_DOUBT)) {
                    near |= 1 << p;
                }
            }
            return near;
        }

        private static boolean fits(int met, int suns, int noSuns) {
            return (suns & ~met) == 0 && (noSuns & met) == 0;
        }

        boolean isMade(int set, int h) {
            int met = 0;
            for (int cause = 0; cause < CAUSES; cause++) {
                if ((set >> cause & 1) == 1) {
                    met |= placesMet(cause, h);
                }
            }
            return fits(met, placesTold(SUN), placesTold(NO_SUN));
        }

        /** By bits a set comes by its higher cause, then alone, then by its lower one. */
        int firstMaker(int h) {
            int suns = placesTold(SUN);
            int noSuns = placesTold(NO_SUN);
            for (int high = 0; high < CAUSES; high++) {
                metBy[high] = placesMet(high, h);
                if (fits(metBy[high], suns, noSuns)) {
                    return 1 << high;
                }
                for (int low = 0; low < high; low++) {
                    if (fits(metBy[high] | metBy[low], suns, noSuns)) {
                        return (1 << high) | (1 << low);
                    }
                }
            }
            return NONE;
        }
    }

    /** The DAYS, each with its cold, its cloud and the causes seen. */
    private static final class Diary {
        private final int[] colds = new int[DAYS];
        private final int[] clouds = new int[DAYS];
        private final int[] seen = new int[DAYS];
        int size;

        int addDay(int cold, int cloud, int causes) {
            if (size >= DAYS) {
                return FULL;
            }
            colds[size] = cold;
            clouds[size] = cloud;
            seen[size] = causes;
            size++;
            return size;
        }

        /** Days of cold a to b and that cloud on which all the causes were seen. */
        int daysWith(int causes, int a, int b, int cloud) {
            int days = 0;
            for (int n = 0; n < size; n++) {
                if (colds[n] >= a && colds[n] <= b && (cloud == ANY_CLOUD || clouds[n] == cloud)
                        && (seen[n] & causes) == causes) {
                    days++;
                }
            }
            return days;
        }

        int causesSeen() {
            int causes = 0;
            for (int n = 0; n < size; n++) {
                causes |= seen[n];
            }
            return causes;
        }
    }
}
