/** Promise 14: tower. */
public final class Promise14Test {
    private static final int NONE = HoleHouse.NONE;
    private static final Check check = new Check("Promise 14");

    public static void main(String[] args) {
        ofAPentagon();
        ofNoPointsAndOfAll();
        ofAllButTheGreatest();
        theyMakeTheRoundSpace();
        beyondThePoints();
        ofTheComplexAsItIs();
        whatCannotBe();
        check.finish();
    }

    private static void ofAPentagon() {
        check.sentence("The TOWER i, j (0 .. 6 each);");
        HoleHouse x = Complexes.built(Complexes.PENTAGON);
        for (int i = 0; i <= 6; i++) {
            for (int j = 0; j <= 6; j++) {
                int want = i == 0 && j == 0 || i == 3 && j == 5 ? 1 : (i == 1 || i == 2) && j == i + 1 ? 5 : 0;
                check.due("tower(" + i + ", " + j + ")", x.tower(i, j), want);
            }
        }
    }

    private static void ofNoPointsAndOfAll() {
        int[] choose = {1, 6, 15, 20, 15, 6, 1};
        HoleHouse empty = Complexes.built("6:");
        HoleHouse full = Complexes.built(Complexes.full(6));
        for (int i = 0; i <= 6; i++) {
            for (int j = 0; j <= 6; j++) {
                check.due("empty tower(" + i + ", " + j + ")", empty.tower(i, j), i == j ? choose[i] : 0);
                check.due("full tower(" + i + ", " + j + ")", full.tower(i, j), i == 0 && j == 0 ? 1 : 0);
            }
        }
    }

    private static void ofAllButTheGreatest() {
        for (int n = 1; n <= 6; n++) {
            HoleHouse x = Complexes.built(Complexes.hollow(n));
            for (int i = 0; i <= 6; i++) {
                for (int j = 0; j <= 6; j++) {
                    int want = i == 0 && j == 0 || i == 1 && j == n ? 1 : 0;
                    check.due("hollow " + n + " tower(" + i + ", " + j + ")", x.tower(i, j), want);
                }
            }
        }
    }

    /** HOLES of dimension j - i - 1 of a PART of j points stand in degree 2j - i. */
    private static void theyMakeTheRoundSpace() {
        for (String text : new String[] {Complexes.PLANE, Complexes.BIPARTITE, Complexes.OCTAHEDRON, "6: 012 23 4"}) {
            HoleHouse x = Complexes.built(text);
            int[] sums = new int[13];
            for (int i = 0; i <= 6; i++) {
                for (int j = 0; j <= 6; j++) {
                    int one = x.tower(i, j);
                    check.hold(text + " tower(" + i + ", " + j + ") is 0 or more", one >= 0);
                    check.hold(text + " tower(" + i + ", " + j + ") is 0 for j < i", one == 0 || j >= i);
                    if (j >= i) {
                        sums[2 * j - i] += one;
                    }
                }
            }
            for (int l = 0; l <= 12; l++) {
                check.due(text + " space(" + l + ", 0)", x.space(l, 0), sums[l]);
            }
        }
    }

    private static void beyondThePoints() {
        for (int n = 1; n <= 5; n++) {
            HoleHouse x = Complexes.built(Complexes.empty(n));
            check.due("tower(n, n) of " + n, x.tower(n, n), 1);
            for (int j = n + 1; j <= 6; j++) {
                check.due("tower(" + j + ", " + j + ") of " + n, x.tower(j, j), 0);
                check.due("tower(1, " + j + ") of " + n, x.tower(1, j), 0);
            }
        }
    }

    private static void ofTheComplexAsItIs() {
        HoleHouse x = Complexes.built(Complexes.SQUARE);
        check.due("tower(2, 4)", x.tower(2, 4), 1);
        x.cut(3);
        check.due("tower(2, 4) when the ring is cut", x.tower(2, 4), 0);
        check.due("tower(1, 2) when the ring is cut", x.tower(1, 2), 3);
        x.undo();
        check.due("tower(2, 4) when the cut is taken back", x.tower(2, 4), 1);
        x.points(3);
        check.due("tower(1, 1) of no FACES", x.tower(1, 1), 3);
        x.points(2);
        check.due("tower(1, 1) of no FACES", x.tower(1, 1), 2);
    }

    private static void whatCannotBe() {
        check.sentence("NONE if one can't be.");
        for (int n = 1; n <= 6; n++) {
            HoleHouse x = Complexes.built(Complexes.empty(n));
            for (int wrong : new int[] {-1, 7, 8}) {
                noTower(x, wrong);
            }
            for (int wrong : Complexes.FAR) {
                noTower(x, wrong);
            }
        }
    }

    private static void noTower(HoleHouse x, int wrong) {
        for (int right : new int[] {0, 6}) {
            check.due("tower(" + wrong + ", " + right + ")", x.tower(wrong, right), NONE);
            check.due("tower(" + right + ", " + wrong + ")", x.tower(right, wrong), NONE);
        }
        check.due("tower(" + wrong + ", " + wrong + ")", x.tower(wrong, wrong), NONE);
    }
}
