/** Promise 9: has. */
public final class Promise09Test {
    private static final int NONE = HoleHouse.NONE;
    private static final Check check = new Check("Promise 9");

    public static void main(String[] args) {
        oneAndZero();
        whatCannotBe();
        asThePointsChange();
        check.finish();
    }

    private static void oneAndZero() {
        check.sentence("Whether a set is a FACE: 1, 0;");
        String[] texts = {"1:", "1: 0", "2: 0", "2: 1", "4:", Complexes.SQUARE, Complexes.PENTAGON, "6: 5",
            Complexes.OCTAHEDRON, Complexes.HOLLOW, Complexes.PLANE, Complexes.full(6)};
        for (String text : texts) {
            check.everySet(text, Complexes.built(text), text);
        }
        check.due("has(0), the empty one", new HoleHouse().has(0), 1);
        check.due("has(63) of a full 6", Complexes.built(Complexes.full(6)).has(63), 1);
        check.due("has(63) of a hollow 6", Complexes.built(Complexes.HOLLOW).has(63), 0);
    }

    private static void whatCannotBe() {
        check.sentence("NONE if it can't be.");
        for (int n = 1; n <= 6; n++) {
            HoleHouse x = Complexes.built(Complexes.full(n));
            check.due("has(" + ((1 << n) - 1) + ") of " + n, x.has((1 << n) - 1), 1);
            check.due("has(" + (1 << n) + ") of " + n, x.has(1 << n), NONE);
            for (int set : Complexes.NO_SETS) {
                check.due("has(" + set + ") of " + n, x.has(set), NONE);
            }
        }
    }

    private static void asThePointsChange() {
        HoleHouse x = new HoleHouse();
        x.face(15);
        x.link(1);
        check.due("has(7) when three points are left", x.has(7), 1);
        check.due("has(8) when three points are left", x.has(8), NONE);
        x.points(6);
        check.due("has(8) of six points", x.has(8), 0);
        x.undo();
        x.undo();
        check.due("has(8) when it is as ahead", x.has(8), 1);
        check.due("has(16) when it is as ahead", x.has(16), NONE);
    }
}
