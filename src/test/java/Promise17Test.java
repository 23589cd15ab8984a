/** Promise 17: alike. */
public final class Promise17Test {
    private static final int NONE = HoleHouse.NONE;
    private static final Check check = new Check("Promise 17");

    public static void main(String[] args) {
        oneAndZero();
        eachWithItself();
        oneIsNone();
        ofTheComplexAsItIs();
        check.finish();
    }

    /** Each point's class by a letter. */
    private static void classes(String text, String letters) {
        HoleHouse x = Complexes.built(text);
        for (int p = 0; p < letters.length(); p++) {
            for (int q = 0; q < letters.length(); q++) {
                int want = letters.charAt(p) == letters.charAt(q) ? 1 : 0;
                check.due(text + " alike(" + p + ", " + q + ")", x.alike(p, q), want);
            }
        }
    }

    private static void oneAndZero() {
        check.sentence("Whether points p and q are ALIKE: 1, 0;");
        classes("1:", "a");
        classes("1: 0", "a");
        classes("2: 0", "ab");
        classes("2: 0 1", "aa");
        classes("4: 01 12 23", "abba");
        classes("5: 012 34", "aaabb");
        classes("6: 012 34", "aaabbc");
        classes("6: 012 345", "aaaaaa");
        classes("6: 012 23 4", "aabcde");
        classes("6: 01 12 23 34 15 25", "abcdef");
        classes("6: 05 15 25", "aaabbc");
        classes("6:", "aaaaaa");
        classes(Complexes.full(6), "aaaaaa");
        classes(Complexes.PENTAGON, "aaaaa");
        // All points lie on two edges here, but three of them on a triangle.
        classes("6: 01 12 02 34 45 35 012", "aaabbb");
    }

    private static void eachWithItself() {
        for (int n = 1; n <= 6; n++) {
            HoleHouse x = Complexes.built(n + ": 0");
            for (int p = 0; p < n; p++) {
                check.due("alike(" + p + ", " + p + ")", x.alike(p, p), 1);
            }
        }
    }

    private static void oneIsNone() {
        check.sentence("NONE if one is none.");
        for (int n = 1; n <= 6; n++) {
            HoleHouse x = Complexes.built(Complexes.full(n));
            check.due("alike(0, " + (n - 1) + ") of " + n, x.alike(0, n - 1), 1);
            for (int wrong : new int[] {-1, n, n + 1, 6, 7, 32, 64}) {
                noPoint(x, wrong);
            }
            for (int wrong : Complexes.FAR) {
                noPoint(x, wrong);
            }
        }
    }

    private static void noPoint(HoleHouse x, int wrong) {
        check.due("alike(" + wrong + ", 0)", x.alike(wrong, 0), NONE);
        check.due("alike(0, " + wrong + ")", x.alike(0, wrong), NONE);
        check.due("alike(" + wrong + ", " + wrong + ")", x.alike(wrong, wrong), NONE);
    }

    private static void ofTheComplexAsItIs() {
        HoleHouse x = Complexes.built("3: 01 12");
        check.due("alike(0, 1)", x.alike(0, 1), 0);
        x.face(5);
        check.due("alike(0, 1) when the ring is closed", x.alike(0, 1), 1);
        x.undo();
        check.due("alike(0, 1) when that is taken back", x.alike(0, 1), 0);
        x.link(2);
        check.due("alike(0, 1) of the link", x.alike(0, 1), 1);
        check.due("alike(0, 2) of the link", x.alike(0, 2), NONE);
    }
}
