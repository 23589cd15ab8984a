/** Promise 5: link. */
public final class Promise05Test {
    private static final int NONE = HoleHouse.NONE;
    private static final Check check = new Check("Promise 5");

    public static void main(String[] args) {
        becomesTheLink();
        ofAFullOne();
        itIsNone();
        itIsEmpty();
        itHasAllPoints();
        nothingIsDone();
        check.finish();
    }

    private static void becomesTheLink() {
        check.sentence("The COMPLEX becomes the LINK of a FACE: how many points;");
        HoleHouse x = Complexes.built(Complexes.OCTAHEDRON);
        check.due("link(4)", x.link(4), 5);
        check.everySet("link(4)", x, "5: 03 13 04 14");
        check.due("link(9)", x.link(9), 3);
        check.everySet("link(9), of a greatest FACE", x, "3:");
        HoleHouse wide = Complexes.built("6: 0135 1245");
        check.due("link(34)", wide.link(34), 4);
        check.everySet("link(34)", wide, "4: 02 13");
        HoleHouse last = Complexes.built("6: 5");
        check.due("link(32), of the highest point alone", last.link(32), 5);
        check.everySet("link(32)", last, "5:");
        HoleHouse most = Complexes.built(Complexes.HOLLOW);
        check.due("link(31), of all points but one", most.link(31), 1);
        check.everySet("link(31)", most, "1:");
    }

    private static void ofAFullOne() {
        for (int n = 2; n <= 6; n++) {
            for (int set = 1; set < (1 << n) - 1; set++) {
                HoleHouse x = Complexes.built(Complexes.full(n));
                int left = n - Integer.bitCount(set);
                check.due("link(" + set + ") of a full " + n, x.link(set), left);
                check.complex("link(" + set + ") of a full " + n, x, Complexes.full(left));
            }
        }
    }

    private static void itIsNone() {
        check.sentence("NONE, and nothing is done: it is none");
        HoleHouse x = Complexes.built(Complexes.SQUARE);
        for (int set : new int[] {5, 10, 7, 15, 16, 17, 32}) {
            check.due("link(" + set + ")", x.link(set), NONE);
        }
        for (int set : Complexes.NO_SETS) {
            check.due("link(" + set + ")", x.link(set), NONE);
        }
        check.complex("refused", x, Complexes.SQUARE);
        for (int n = 1; n <= 6; n++) {
            HoleHouse full = Complexes.built(Complexes.full(n));
            for (int set : new int[] {1 << n, (1 << n) + 1, 64, 65}) {
                check.due("link(" + set + ") of a full " + n, full.link(set), NONE);
            }
            check.complex("refused", full, Complexes.full(n));
        }
        HoleHouse ghost = Complexes.built("3: 02");
        check.due("link(2), of a point that is no FACE", ghost.link(2), NONE);
    }

    private static void itIsEmpty() {
        check.sentence("is empty");
        for (int n = 1; n <= 6; n++) {
            HoleHouse x = Complexes.built(Complexes.full(n));
            check.due("link(0) of " + n, x.link(0), NONE);
            check.complex("link(0)", x, Complexes.full(n));
        }
        HoleHouse x = new HoleHouse();
        check.due("link(0) of a new one", x.link(0), NONE);
        check.complex("link(0)", x, "4:");
    }

    private static void itHasAllPoints() {
        check.sentence("or has all points.");
        for (int n = 1; n <= 6; n++) {
            HoleHouse x = Complexes.built(Complexes.full(n));
            check.due("link() of all " + n, x.link((1 << n) - 1), NONE);
            check.complex("link() of all", x, Complexes.full(n));
        }
    }

    private static void nothingIsDone() {
        HoleHouse x = new HoleHouse();
        x.points(2);
        x.face(3);
        check.due("link(0)", x.link(0), NONE);
        check.due("link(3)", x.link(3), NONE);
        check.due("link(4)", x.link(4), NONE);
        check.due("undo() of face(3), not of what was refused", x.undo(), true);
        check.complex("behind it", x, "2:");
    }
}
