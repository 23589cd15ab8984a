/** Promise 6: dual. */
public final class Promise06Test {
    private static final Check check = new Check("Promise 6");

    public static void main(String[] args) {
        becomesItsDual();
        ofTheEmptyFaceAlone();
        twiceIsNothing();
        ofAFullOne();
        nothingIsDone();
        check.finish();
    }

    private static void becomesItsDual() {
        check.sentence("The COMPLEX becomes its DUAL: true;");
        dualOf(Complexes.SQUARE, "4: 02 13");
        dualOf("3: 0 1", "3: 01 2");
        dualOf(Complexes.PENTAGON, "5: 013 023 024 124 134");
        dualOf("2: 0", "2: 0");
        dualOf("2: 1", "2: 1");
        dualOf("4: 012", "4: 012");
        dualOf("6: 01234", "6: 01234");
    }

    private static void dualOf(String text, String want) {
        HoleHouse x = Complexes.built(text);
        check.due(text + " dual()", x.dual(), true);
        check.everySet(text + " dual()", x, want);
    }

    private static void ofTheEmptyFaceAlone() {
        dualOf("1:", "1:");
        for (int n = 2; n <= 6; n++) {
            dualOf(Complexes.empty(n), Complexes.hollow(n));
            dualOf(Complexes.hollow(n), Complexes.empty(n));
        }
    }

    private static void twiceIsNothing() {
        String[] texts = {"1:", "3: 0 12", Complexes.SQUARE, Complexes.PENTAGON, Complexes.OCTAHEDRON,
            Complexes.BIPARTITE, Complexes.HOLLOW, Complexes.PLANE, "6:", "6: 012 23 4"};
        for (String text : texts) {
            HoleHouse x = Complexes.built(text);
            check.due("dual()", x.dual(), true);
            check.due("dual()", x.dual(), true);
            check.complex(text + " dual() twice", x, text);
        }
    }

    private static void ofAFullOne() {
        check.sentence("false, and nothing is done, if there is none.");
        for (int n = 1; n <= 6; n++) {
            HoleHouse x = Complexes.built(Complexes.full(n));
            check.due("dual() of a full " + n, x.dual(), false);
            check.everySet("dual() of a full " + n, x, Complexes.full(n));
            check.due("cut() of the greatest", x.cut((1 << n) - 1), 1);
            check.due("dual() when one is cut", x.dual(), true);
            check.complex("dual() when one is cut", x, Complexes.empty(n));
        }
    }

    private static void nothingIsDone() {
        HoleHouse x = new HoleHouse();
        x.points(2);
        x.face(3);
        check.due("dual()", x.dual(), false);
        check.due("undo() of face(3), not of what was refused", x.undo(), true);
        check.complex("behind it", x, "2:");
    }
}
