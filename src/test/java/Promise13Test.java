/** Promise 13: space. */
public final class Promise13Test {
    private static final int NONE = HoleHouse.NONE;
    private static final Check check = new Check("Promise 13");

    public static void main(String[] args) {
        inEachDegree();
        ofAllButTheGreatest();
        ofNoPointsAndOfAll();
        ofTheComplexAsItIs();
        whatCannotBe();
        check.finish();
    }

    private static void spaces(String text, int[] round, int[] straight) {
        HoleHouse x = Complexes.built(text);
        for (int l = 0; l <= 12; l++) {
            check.due(text + " space(" + l + ", 0)", x.space(l, 0), l < round.length ? round[l] : 0);
            check.due(text + " space(" + l + ", 1)", x.space(l, 1), l < straight.length ? straight[l] : 0);
        }
    }

    private static void inEachDegree() {
        check.sentence("THE ROUND SPACE (what 0), THE STRAIGHT one (1) in degree l (0 .. 12);");
        spaces(Complexes.SQUARE, new int[] {1, 0, 0, 2, 0, 0, 1}, new int[] {1, 2, 1});
        spaces(Complexes.PENTAGON, new int[] {1, 0, 0, 5, 5, 0, 0, 1}, new int[] {1, 10, 1});
        spaces(Complexes.OCTAHEDRON, new int[] {1, 0, 0, 3, 0, 0, 3, 0, 0, 1}, new int[] {1, 3, 3, 1});
        spaces("2: 0", new int[] {1, 1}, new int[] {2});
        // One hole of dimension 1 in each triangle that is no FACE and in each part of four, five and six points.
        spaces(Complexes.PLANE, new int[] {1, 0, 0, 0, 0, 10, 15, 6, 1, 1}, new int[] {1, 0, 32, 1});
    }

    private static void ofAllButTheGreatest() {
        for (int n = 1; n <= 6; n++) {
            HoleHouse x = Complexes.built(Complexes.hollow(n));
            for (int l = 0; l <= 12; l++) {
                check.due("hollow " + n + " space(" + l + ", 0)", x.space(l, 0), l == 0 || l == 2 * n - 1 ? 1 : 0);
                int straight = (l == 0 ? 1 : 0) + (l == n - 1 ? 1 : 0);
                check.due("hollow " + n + " space(" + l + ", 1)", x.space(l, 1), straight);
            }
        }
    }

    private static void ofNoPointsAndOfAll() {
        spaces("6:", new int[] {1, 6, 15, 20, 15, 6, 1}, new int[] {64});
        spaces("1:", new int[] {1, 1}, new int[] {2});
        for (int n = 1; n <= 6; n++) {
            spaces(Complexes.full(n), new int[] {1}, new int[] {1});
        }
    }

    private static void ofTheComplexAsItIs() {
        HoleHouse x = Complexes.built(Complexes.SQUARE);
        check.due("space(6, 0)", x.space(6, 0), 1);
        x.cut(3);
        check.due("space(6, 0) when the ring is cut", x.space(6, 0), 0);
        check.due("space(2, 1) when the ring is cut", x.space(2, 1), 0);
        x.undo();
        check.due("space(6, 0) when the cut is taken back", x.space(6, 0), 1);
        x.points(3);
        check.due("space(0, 1) of no FACES", x.space(0, 1), 8);
        x.points(2);
        check.due("space(0, 1) of no FACES", x.space(0, 1), 4);
    }

    private static void whatCannotBe() {
        check.sentence("NONE if one can't be.");
        for (int n = 1; n <= 6; n++) {
            HoleHouse x = Complexes.built(Complexes.hollow(n));
            for (int l : new int[] {-1, 13, 14}) {
                check.due("space(" + l + ", 0) of " + n, x.space(l, 0), NONE);
                check.due("space(" + l + ", 1) of " + n, x.space(l, 1), NONE);
            }
            for (int l : Complexes.FAR) {
                check.due("space(" + l + ", 0) of " + n, x.space(l, 0), NONE);
                check.due("space(0, " + l + ") of " + n, x.space(0, l), NONE);
            }
            for (int what : new int[] {-1, 2, 3}) {
                check.due("space(0, " + what + ") of " + n, x.space(0, what), NONE);
                check.due("space(12, " + what + ") of " + n, x.space(12, what), NONE);
            }
            check.due("space(12, 0) of " + n, x.space(12, 0), 0);
            check.due("space(12, 1) of " + n, x.space(12, 1), 0);
        }
    }
}
