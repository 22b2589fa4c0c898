import java.io.IOException;
import java.nio.file.Files;
import java.nio.file.Path;

/** What the tests of edges share: the sentence that is tested, which must stand in the document, and what is due. */
final class Edges {
    static final int LOW = Integer.MIN_VALUE, HIGH = Integer.MAX_VALUE;

    private final String test;
    private final String document;
    private String sentence = "";
    private int asked = 0;
    private int wrong = 0;

    Edges(String test) throws IOException {
        this.test = test;
        document = Files.readString(Path.of("../shared/DOC.md")).replaceAll("\\s+", " ");
    }

    /** What is due from here on is due by these words; a sentence that nobody wrote tests nothing. */
    void says(String words) {
        sentence = words;
        if (!document.contains(words)) {
            wrong++;
            System.out.println(test + ": the document does not say '" + words + "'");
        }
    }

    void due(String call, long got, long want) {
        asked++;
        if (got != want) {
            wrong++;
            System.out.println(test + ": '" + sentence + "': " + call + " answered " + got + ", due is " + want);
        }
    }

    void end() {
        System.out.println(test + ": " + (wrong == 0 ? "all " + asked + " as due" : wrong + " of " + asked + " wrong"));
        if (wrong != 0) System.exit(1);
    }

    /** A new object with another TABLE: what INSIDE is at 100, 200, .. 900. */
    static SunRings bending(int sort, int... nine) {
        SunRings x = new SunRings();
        for (int k = 1; k <= 9; k++) {
            x.table(sort, k, 0);
        }
        for (int k = 9; k >= 1; k--) {
            x.table(sort, k, nine[k - 1]);
        }
        return x;
    }

    /** INSIDE of i is i. */
    static SunRings unbending(int sort) {
        return bending(sort, 100, 200, 300, 400, 500, 600, 700, 800, 900);
    }

    /** INSIDE of every i is 0. */
    static SunRings straightDown(int sort) {
        return bending(sort, 0, 0, 0, 0, 0, 0, 0, 0, 0);
    }

    /** INSIDE of i is half of i, cut. */
    static SunRings halving(int sort) {
        return bending(sort, 50, 100, 150, 200, 250, 300, 350, 400, 450);
    }
}
