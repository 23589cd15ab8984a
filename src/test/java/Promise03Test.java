/** Promise 3: face. */
public final class Promise03Test {
    private static final int NONE = HoleHouse.NONE;
    private static final Check check = new Check("Promise 3");

    public static void main(String[] args) {
        withAllWithinIt();
        howManyCame();
        whatCannotBe();
        nothingIsDone();
        zeroIfItIsOne();
        check.finish();
    }

    private static void withAllWithinIt() {
        check.sentence("A set becomes a FACE, with all within it: how many FACES came;");
        for (int n = 1; n <= 6; n++) {
            for (int set = 0; set < 1 << n; set++) {
                HoleHouse x = new HoleHouse();
                x.points(n);
                check.due("face(" + set + ") of " + n, x.face(set), (1 << Integer.bitCount(set)) - 1);
                check.everySet("face(" + set + ")", x, n + ": " + Complexes.digits(set));
            }
        }
    }

    private static void howManyCame() {
        HoleHouse x = new HoleHouse();
        x.points(6);
        check.due("face(56)", x.face(56), 7);
        check.due("face(52), of which point 2 and three sets are new", x.face(52), 4);
        check.due("face(60), of which all borders but one are new", x.face(60), 4);
        check.due("face(63)", x.face(63), 64 - 16);
        check.complex("at last", x, Complexes.full(6));
        HoleHouse last = Complexes.built(Complexes.HOLLOW);
        check.due("face(63), the last", last.face(63), 1);
    }

    private static void whatCannotBe() {
        check.sentence("NONE, and nothing is done, if it can't be");
        for (int n = 1; n <= 6; n++) {
            HoleHouse x = Complexes.built(Complexes.hollow(n));
            int least = 1 << n;
            check.due("face(" + least + ") of " + n, x.face(least), NONE);
            check.due("face(" + (least + 1) + ") of " + n, x.face(least + 1), NONE);
            for (int set : Complexes.NO_SETS) {
                check.due("face(" + set + ") of " + n, x.face(set), NONE);
            }
            check.complex("refused", x, Complexes.hollow(n));
            check.due("face() of all points", x.face(least - 1), 1);
        }
    }

    private static void nothingIsDone() {
        HoleHouse x = new HoleHouse();
        x.points(5);
        x.face(16);
        x.points(4);
        check.due("face(16), which could be ahead of points()", x.face(16), NONE);
        check.due("face(-1)", x.face(-1), NONE);
        check.due("undo() of points(), not of what was refused", x.undo(), true);
        check.complex("behind it", x, "5: 4");
    }

    private static void zeroIfItIsOne() {
        check.sentence("(0 if it is one).");
        HoleHouse x = new HoleHouse();
        check.due("face(0), the empty one", x.face(0), 0);
        check.due("face(7)", x.face(7), 7);
        check.due("face(7) again", x.face(7), 0);
        for (int set = 0; set < 8; set++) {
            check.due("face(" + set + ") within it", x.face(set), 0);
        }
        check.complex("nothing came", x, "4: 012");
        check.due("face(8) is none yet", x.face(8), 1);
    }
}
