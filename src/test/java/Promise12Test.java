/** Promise 12: holes. */
public final class Promise12Test {
    private static final int NONE = HoleHouse.NONE;
    private static final Check check = new Check("Promise 12");

    public static void main(String[] args) {
        ofTheWhole();
        ofParts();
        ofTheEmptyPart();
        beyondTheDimension();
        ofTheComplexAsItIs();
        whatCannotBe();
        check.finish();
    }

    /** The HOLES of dimension -1 first; none in those that aren't told. */
    private static void holes(String text, int part, int... want) {
        HoleHouse x = Complexes.built(text);
        for (int k = -1; k <= 5; k++) {
            check.due(text + " holes(" + part + ", " + k + ")", x.holes(part, k), k + 1 < want.length ? want[k + 1] : 0);
        }
    }

    private static void ofTheWhole() {
        check.sentence("HOLES of dimension k of PART J;");
        holes("1:", 1, 1);
        holes("1: 0", 1);
        holes("2: 0 1", 3, 0, 1);
        holes("3: 01 12 02", 7, 0, 0, 1);
        holes(Complexes.hollow(4), 15, 0, 0, 0, 1);
        holes(Complexes.hollow(5), 31, 0, 0, 0, 0, 1);
        holes(Complexes.HOLLOW, 63, 0, 0, 0, 0, 0, 1);
        holes(Complexes.full(6), 63);
        holes("6:", 63, 1);
        holes(Complexes.skeleton(6, 1), 63, 0, 5);
        holes(Complexes.skeleton(6, 2), 63, 0, 0, 10);
        holes(Complexes.skeleton(6, 3), 63, 0, 0, 0, 10);
        holes(Complexes.skeleton(6, 4), 63, 0, 0, 0, 0, 5);
        holes(Complexes.PLANE, 63, 0, 0, 1, 1);
        holes(Complexes.BIPARTITE, 63, 0, 0, 4);
        holes("5: 01 12 02 3", 31, 0, 1, 1);
    }

    private static void ofParts() {
        holes(Complexes.SQUARE, 5, 0, 1);
        holes(Complexes.SQUARE, 7);
        holes(Complexes.HOLLOW, 31);
        holes(Complexes.HOLLOW, 32);
        holes(Complexes.BIPARTITE, 7, 0, 2);
        holes(Complexes.BIPARTITE, 27, 0, 0, 1);
        holes("3: 0", 6, 1);
        holes("3: 0", 7);
        holes("6: 5", 31, 1);
        holes("6: 5", 32);
    }

    private static void ofTheEmptyPart() {
        for (String text : new String[] {"1:", "1: 0", "6:", Complexes.SQUARE, Complexes.HOLLOW, Complexes.full(6)}) {
            holes(text, 0, 1);
        }
    }

    private static void beyondTheDimension() {
        for (int n = 1; n <= 6; n++) {
            HoleHouse x = Complexes.built(Complexes.hollow(n));
            check.due("holes(all, 5) of " + n, x.holes((1 << n) - 1, 5), 0);
            check.due("holes(all, n - 1) of " + n, x.holes((1 << n) - 1, n - 1), 0);
            check.due("holes(all, n - 2) of " + n, x.holes((1 << n) - 1, n - 2), 1);
        }
    }

    private static void ofTheComplexAsItIs() {
        HoleHouse x = Complexes.built(Complexes.SQUARE);
        check.due("holes(15, 1)", x.holes(15, 1), 1);
        x.cut(3);
        check.due("holes(15, 1) when the ring is cut", x.holes(15, 1), 0);
        x.undo();
        check.due("holes(15, 1) when the cut is taken back", x.holes(15, 1), 1);
        x.dual();
        check.due("holes(15, 1) of the dual", x.holes(15, 1), 0);
        check.due("holes(15, 0) of the dual", x.holes(15, 0), 1);
        x.link(1);
        check.due("holes(7, 0) of the link", x.holes(7, 0), 0);
        check.due("holes(7, -1) of the link", x.holes(7, -1), 0);
        x.points(4);
        check.due("holes(15, -1) of no FACES", x.holes(15, -1), 1);
        x.points(5);
        check.due("holes(31, -1) of no FACES", x.holes(31, -1), 1);
    }

    private static void whatCannotBe() {
        check.sentence("NONE if one can't be (k -1 .. 5).");
        for (int n = 1; n <= 6; n++) {
            HoleHouse x = Complexes.built(Complexes.hollow(n));
            check.due("holes(" + (1 << n) + ", 0) of " + n, x.holes(1 << n, 0), NONE);
            check.due("holes(" + (1 << n) + ", -1) of " + n, x.holes(1 << n, -1), NONE);
            for (int part : Complexes.NO_SETS) {
                check.due("holes(" + part + ", 0) of " + n, x.holes(part, 0), NONE);
            }
            for (int part : new int[] {0, (1 << n) - 1}) {
                check.due("holes(" + part + ", -2) of " + n, x.holes(part, -2), NONE);
                check.due("holes(" + part + ", 6) of " + n, x.holes(part, 6), NONE);
                for (int k : Complexes.FAR) {
                    check.due("holes(" + part + ", " + k + ") of " + n, x.holes(part, k), NONE);
                }
            }
            check.due("holes(64, 6)", x.holes(64, 6), NONE);
        }
    }
}
