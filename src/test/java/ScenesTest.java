import java.util.Random;

/** Whole skies (fixed seeds): ice, a drawing and a cut that fit one height, asked of SunRings and PlainRings. */
public final class ScenesTest {
    private static final int SCENES = 150;
    private static int wrong = 0;

    private final Random random;
    private final SunRings real = new SunRings();
    private final PlainRings plain = new PlainRings();
    private final int scene;

    private ScenesTest(int scene) {
        this.scene = scene;
        random = new Random(7000 + scene);
    }

    public static void main(String[] args) {
        for (int n = 0; n < SCENES; n++) {
            new ScenesTest(n).play();
        }
        System.out.println(wrong == 0 ? "ScenesTest: all alike" : "ScenesTest: " + wrong + " answers differ");
        if (wrong != 0) System.exit(1);
    }

    private void due(String call, long got, long want) {
        if (got != want) {
            wrong++;
            System.out.println("scene " + scene + ": " + call + " answered " + got + ", due is " + want);
        }
    }

    private int from(int a, int b) {
        return a + random.nextInt(b - a + 1);
    }

    private void play() {
        int h = 50 * from(0, 16);
        freeze();
        draw(h, from(1, 12));
        engrave(h, from(1, 5));
        ask(h);
        ask(50 * from(0, 18));
        ask(from(0, 900));
        due("never", real.never(), plain.never());
    }

    private void freeze() {
        due("rule", real.rule(4, scene), plain.rule(4, scene));
        for (int n = from(2, 11); n > 0; n--) {
            int kind = from(0, 3);
            int w = new int[] {600, 900, 200, 250, 300, 500, 601, 700, 800, 950}[from(0, 9)];
            due("wedge", real.wedge(kind, w), plain.wedge(kind, w));
        }
    }

    private void draw(int h, int marks) {
        for (int n = 0; n < marks; n++) {
            int cause = from(0, 15);
            int all = plain.light(cause, h, -1, 0);
            if (all < 1) continue;
            int i = from(0, all - 1);
            int form = random.nextInt(9) == 0 ? -1 : plain.light(cause, h, i, 0);
            int side = random.nextInt(9) == 0 ? -1 : plain.light(cause, h, i, 1);
            int doubt = from(0, 6);
            int near = Math.max(0, Math.min(1800, plain.light(cause, h, i, from(2, 3)) + from(-doubt, doubt)));
            due("mark", real.mark(form, side, near, doubt), plain.mark(form, side, near, doubt));
        }
    }

    private void engrave(int h, int places) {
        int maker = 1 << from(0, 15) | 1 << from(0, 15);
        for (int n = 0; n < places; n++) {
            int p = from(0, 11);
            due("cut", real.cut(p, 1), plain.cut(p, 1));
            int v = plain.made(maker, h) == 1 ? 1 : 0;
            due("cut", real.cut(p, v), plain.cut(p, v));
        }
        due("made", real.made(maker, h), plain.made(maker, h));
    }

    private void ask(int h) {
        int fewest = plain.fewest(h);
        due("fewest " + h, real.fewest(h), fewest);
        int maker = plain.maker(h);
        due("maker " + h, real.maker(h), maker);
        for (int n = 0; n < 6; n++) {
            int set = n == 0 && fewest > 0 ? fewest : n == 1 && maker > 0 ? maker : from(0, 65535) & from(0, 65535);
            due("explains " + set, real.explains(set, h), plain.explains(set, h));
            due("owed " + set, real.owed(set, h), plain.owed(set, h));
            due("made " + set, real.made(set, h), plain.made(set, h));
            for (int i = -1; i < 4; i++) {
                due("heights " + set + " " + i, real.heights(set, i), plain.heights(set, i));
            }
        }
        for (int cause = 0; cause < 16; cause++) {
            due("light", real.light(cause, h, -1, 0), plain.light(cause, h, -1, 0));
        }
    }
}
