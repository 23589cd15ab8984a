/** Promise 10: faces. */
public final class Promise10Test {
    private static final int NONE = HoleHouse.NONE;
    private static final Check check = new Check("Promise 10");

    public static void main(String[] args) {
        ofEachDimension();
        ofNoFaces();
        whatIsNoDimension();
        check.finish();
    }

    private static void faces(String text, int... want) {
        HoleHouse x = Complexes.built(text);
        for (int k = -1; k <= 5; k++) {
            check.due(text + " faces(" + k + ")", x.faces(k), k + 1 < want.length ? want[k + 1] : 0);
        }
    }

    private static void ofEachDimension() {
        check.sentence("How many FACES of dimension k there are;");
        faces("6: 01234 5", 1, 6, 10, 10, 5, 1);
        faces(Complexes.full(6), 1, 6, 15, 20, 15, 6, 1);
        faces(Complexes.HOLLOW, 1, 6, 15, 20, 15, 6);
        faces(Complexes.PLANE, 1, 6, 15, 10);
        faces(Complexes.SQUARE, 1, 4, 4);
        faces("5: 1 34", 1, 3, 1);
    }

    private static void ofNoFaces() {
        for (int n = 1; n <= 6; n++) {
            faces(Complexes.empty(n), 1);
        }
        faces("1: 0", 1, 1);
    }

    private static void whatIsNoDimension() {
        check.sentence("NONE if k is not -1 .. 5.");
        for (int n = 1; n <= 6; n++) {
            HoleHouse x = Complexes.built(Complexes.full(n));
            check.due("faces(-1)", x.faces(-1), 1);
            check.due("faces(-2)", x.faces(-2), NONE);
            check.due("faces(5)", x.faces(5), n == 6 ? 1 : 0);
            check.due("faces(6)", x.faces(6), NONE);
            check.due("faces(7)", x.faces(7), NONE);
            for (int k : Complexes.FAR) {
                check.due("faces(" + k + ")", x.faces(k), NONE);
            }
        }
    }
}
