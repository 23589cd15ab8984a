/** Promise 2: points. */
public final class Promise02Test {
    private static final Check check = new Check("Promise 2");

    public static void main(String[] args) {
        oneToSixPoints();
        theFacesGo();
        tooFewTooMany();
        nothingIsDone();
        check.finish();
    }

    private static void oneToSixPoints() {
        check.sentence("N points, the empty FACE alone: true;");
        for (int n = 1; n <= 6; n++) {
            HoleHouse x = new HoleHouse();
            check.due("points(" + n + ")", x.points(n), true);
            check.everySet("points(" + n + ")", x, Complexes.empty(n));
        }
    }

    private static void theFacesGo() {
        for (int n = 1; n <= 6; n++) {
            HoleHouse x = Complexes.built(Complexes.full(6));
            check.due("points(" + n + ")", x.points(n), true);
            check.everySet("points(" + n + ") of a full one", x, Complexes.empty(n));
            HoleHouse same = Complexes.built(Complexes.full(n));
            check.due("points(" + n + ") of " + n, same.points(n), true);
            check.complex("points(" + n + ") of " + n, same, Complexes.empty(n));
        }
    }

    private static void tooFewTooMany() {
        check.sentence("false, and nothing is done, if that can't be.");
        HoleHouse x = Complexes.built(Complexes.SQUARE);
        for (int n : new int[] {0, 7, -1, -4, 8, 32, 33, 36, 64, 1 << 16, Integer.MIN_VALUE, Integer.MAX_VALUE}) {
            check.due("points(" + n + ")", x.points(n), false);
            check.complex("points(" + n + ")", x, Complexes.SQUARE);
        }
        for (int n = 1; n <= 6; n++) {
            HoleHouse full = Complexes.built(Complexes.full(n));
            check.due("points(0)", full.points(0), false);
            check.due("points(7)", full.points(7), false);
            check.complex("refused", full, Complexes.full(n));
        }
    }

    private static void nothingIsDone() {
        HoleHouse x = new HoleHouse();
        x.points(3);
        x.face(3);
        x.write();
        x.take();
        check.due("points(0)", x.points(0), false);
        check.due("points(7)", x.points(7), false);
        check.due("out(4)", x.out(4), '1');
        check.due("read() of the TAPE as it was", x.read(), 4);
        check.due("undo() of read()", x.undo(), true);
        check.due("undo() of face(), not of what was refused", x.undo(), true);
        check.complex("behind it", x, "3:");
    }
}
