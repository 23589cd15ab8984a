/** Promise 15: rank. */
public final class Promise15Test {
    private static final int NONE = HoleHouse.NONE;
    private static final String TWO_TRIANGLES = "6: 0134 0234 1234 0135 0235 1235 0145 0245 1245";
    private static final String TWO_AND_FOUR = "6: 0234 1234 0235 1235 0245 1245 0345 1345";
    private static final Check check = new Check("Promise 15");

    public static void main(String[] args) {
        ofTwoSets();
        inEachDimension();
        ofLargerMarks();
        highDimensionsAreNothing();
        ofTheComplexAsItIs();
        aAndBOnlyFromZeroToFive();
        setsOfPoints();
        notEmpty();
        withoutACommonOne();
        check.finish();
    }

    private static void rank(String text, int j, int l, int a, int b, int want) {
        HoleHouse x = Complexes.built(text);
        String call = text + " rank(" + j + ", " + l + ", " + a + ", " + b + ")";
        check.due(call, x.rank(j, l, a, b), want);
        check.due(call + " the other way round", x.rank(l, j, b, a), want);
    }

    private static void ofTwoSets() {
        check.sentence("RANK a, b (0 .. 5) of J and L;");
        rank(Complexes.SQUARE, 5, 10, 0, 0, 1);
        rank(Complexes.SQUARE, 3, 12, 0, 0, 0);
        rank(Complexes.SQUARE, 1, 14, 0, 0, 0);
        rank(Complexes.SQUARE, 1, 2, 0, 0, 0);
        rank(Complexes.PENTAGON, 5, 26, 0, 0, 1);
        rank(Complexes.PENTAGON, 5, 10, 0, 0, 0);
        rank(Complexes.BIPARTITE, 7, 56, 0, 0, 4);
        rank(Complexes.BIPARTITE, 3, 56, 0, 0, 2);
        rank(Complexes.BIPARTITE, 3, 24, 0, 0, 1);
        rank(Complexes.BIPARTITE, 7, 8, 0, 0, 0);
        rank("4: 02 03", 3, 12, 0, 0, 0);
        rank("2: 0 1", 1, 2, 0, 0, 0);
        rank("2:", 1, 2, 0, 0, 0);
        rank(Complexes.full(6), 31, 32, 0, 0, 0);
        rank(Complexes.full(6), 1, 62, 0, 0, 0);
    }

    private static void inEachDimension() {
        rank(TWO_TRIANGLES, 7, 56, 1, 1, 1);
        rank(TWO_TRIANGLES, 7, 56, 0, 1, 0);
        rank(TWO_TRIANGLES, 7, 56, 1, 0, 0);
        rank(TWO_TRIANGLES, 7, 56, 2, 0, 0);
        rank(TWO_AND_FOUR, 3, 60, 0, 2, 1);
        rank(TWO_AND_FOUR, 3, 60, 2, 0, 0);
        rank(TWO_AND_FOUR, 3, 60, 1, 1, 0);
        rank(Complexes.OCTAHEDRON, 3, 60, 0, 1, 1);
        rank(Complexes.OCTAHEDRON, 12, 51, 0, 1, 1);
        rank(Complexes.OCTAHEDRON, 3, 60, 1, 0, 0);
        rank(Complexes.OCTAHEDRON, 3, 60, 0, 0, 0);
        rank(Complexes.OCTAHEDRON, 3, 12, 0, 0, 1);
        rank(Complexes.OCTAHEDRON, 5, 10, 0, 0, 0);
    }

    /** Marks that are 1 on all of an edge's points are closed, and those that are 1 on one of them are not. */
    private static void ofLargerMarks() {
        rank("5: 013 014 23 24", 7, 24, 0, 0, 1);
        rank("5: 034 134 23 24", 7, 24, 0, 0, 0);
        rank("6: 013 23 014 24 015 25", 7, 56, 0, 0, 2);
        rank("6: 0134 234 015 25", 7, 56, 0, 0, 1);
        rank("6: 0134 234 015 25", 7, 40, 0, 0, 1);
        rank("6: 0134 234 015 25", 7, 24, 0, 0, 0);
    }

    private static void ofTheComplexAsItIs() {
        HoleHouse x = Complexes.built(Complexes.SQUARE);
        check.due("rank(5, 10, 0, 0)", x.rank(5, 10, 0, 0), 1);
        x.cut(3);
        check.due("rank(5, 10, 0, 0) when the ring is cut", x.rank(5, 10, 0, 0), 0);
        x.undo();
        check.due("rank(5, 10, 0, 0) when the cut is taken back", x.rank(5, 10, 0, 0), 1);
        x.face(15);
        check.due("rank(5, 10, 0, 0) when it is full", x.rank(5, 10, 0, 0), 0);
    }

    private static void highDimensionsAreNothing() {
        for (String text : new String[] {Complexes.SQUARE, "2:", "2: 01"}) {
            HoleHouse x = Complexes.built(text);
            for (int a = 0; a <= 5; a++) {
                for (int b = 0; b <= 5; b++) {
                    check.due(text + " rank(1, 2, " + a + ", " + b + ")", x.rank(1, 2, a, b), 0);
                }
            }
        }
        rank(Complexes.SQUARE, 5, 10, 5, 5, 0);
        rank(Complexes.SQUARE, 5, 10, 0, 5, 0);
        rank(Complexes.full(6), 7, 56, 5, 5, 0);
    }

    private static void aAndBOnlyFromZeroToFive() {
        check.sentence("NONE if one can't be");
        HoleHouse x = Complexes.built(Complexes.SQUARE);
        for (int wrong : new int[] {-1, 6, 7}) {
            noMark(x, wrong);
        }
        for (int wrong : Complexes.FAR) {
            noMark(x, wrong);
        }
        check.due("rank(5, 10, -1, 1)", x.rank(5, 10, -1, 1), NONE);
        check.due("rank(5, 10, 0, 0)", x.rank(5, 10, 0, 0), 1);
    }

    private static void noMark(HoleHouse x, int wrong) {
        check.due("rank(5, 10, " + wrong + ", 0)", x.rank(5, 10, wrong, 0), NONE);
        check.due("rank(5, 10, 0, " + wrong + ")", x.rank(5, 10, 0, wrong), NONE);
        check.due("rank(5, 10, " + wrong + ", " + wrong + ")", x.rank(5, 10, wrong, wrong), NONE);
    }

    private static void setsOfPoints() {
        check.sentence("(sets of points,");
        for (int n = 1; n <= 6; n++) {
            HoleHouse x = Complexes.built(Complexes.skeleton(n, 1));
            check.due("rank(1, " + (1 << n) + ", 0, 0) of " + n, x.rank(1, 1 << n, 0, 0), NONE);
            check.due("rank(" + (1 << n) + ", 1, 0, 0) of " + n, x.rank(1 << n, 1, 0, 0), NONE);
            for (int set : Complexes.NO_SETS) {
                check.due("rank(" + set + ", 1, 0, 0) of " + n, x.rank(set, 1, 0, 0), NONE);
                check.due("rank(2, " + set + ", 0, 0) of " + n, x.rank(2, set, 0, 0), NONE);
            }
        }
        HoleHouse x = Complexes.built(Complexes.skeleton(6, 1));
        check.due("rank(32, 31, 0, 0) of six", x.rank(32, 31, 0, 0), 0);
        check.due("rank(MIN, MAX, 0, 0)", x.rank(Integer.MIN_VALUE, Integer.MAX_VALUE, 0, 0), NONE);
    }

    private static void notEmpty() {
        check.sentence("not empty,");
        for (int n = 1; n <= 6; n++) {
            HoleHouse x = Complexes.built(Complexes.skeleton(n, 1));
            check.due("rank(0, 1, 0, 0)", x.rank(0, 1, 0, 0), NONE);
            check.due("rank(1, 0, 0, 0)", x.rank(1, 0, 0, 0), NONE);
            check.due("rank(0, 0, 0, 0)", x.rank(0, 0, 0, 0), NONE);
        }
    }

    private static void withoutACommonOne() {
        check.sentence("without a common one).");
        HoleHouse x = Complexes.built(Complexes.SQUARE);
        for (int j = 1; j < 16; j++) {
            for (int l = 1; l < 16; l++) {
                boolean product = j == 5 && l == 10 || j == 10 && l == 5;
                int want = (j & l) != 0 ? NONE : product ? 1 : 0;
                check.due("rank(" + j + ", " + l + ", 0, 0)", x.rank(j, l, 0, 0), want);
            }
        }
        HoleHouse one = Complexes.built("1: 0");
        check.due("rank(1, 1, 0, 0) of one point", one.rank(1, 1, 0, 0), NONE);
    }
}
