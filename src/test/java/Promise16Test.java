/** Promise 16: first. Of up to six points THE FIRST always has RANK 1 and no other a, b: all of them were gone through. */
public final class Promise16Test {
    private static final int NONE = HoleHouse.NONE;
    private static final Check check = new Check("Promise 16");

    public static void main(String[] args) {
        theFirst();
        itsRank();
        itIsPlain();
        anotherWhat();
        ofTheComplexAsItIs();
        check.finish();
    }

    private static void first(String text, int... want) {
        HoleHouse x = Complexes.built(text);
        for (int what = 0; what < want.length; what++) {
            check.due(text + " first(" + what + ")", x.first(what), want[what]);
        }
    }

    private static void theFirst() {
        check.sentence("THE FIRST: what 0 J, 1 L, 2 a, 3 b, 4 its RANK.");
        first(Complexes.SQUARE, 5, 10, 0, 0, 1);
        first(Complexes.PENTAGON, 5, 26, 0, 0, 1);
        first(Complexes.OCTAHEDRON, 3, 12, 0, 0, 1);
        first(Complexes.BIPARTITE, 3, 24, 0, 0, 1);
        first("5: 013 123 023 014 124 024", 7, 24, 1, 0, 1);
        first("5: 012 123 014 024 134 234", 9, 22, 0, 1, 1);
        first("6: 0124 0134 0234 1234 0125 0135 0235 1235", 15, 48, 2, 0, 1);
        first("6: 0234 1234 0235 1235 0245 1245 0345 1345", 3, 60, 0, 2, 1);
        first("6: 0134 0234 1234 0135 0235 1235 0145 0245 1245", 7, 56, 1, 1, 1);
    }

    private static void itsRank() {
        for (String text : new String[] {Complexes.SQUARE, Complexes.BIPARTITE, "5: 012 123 014 024 134 234"}) {
            HoleHouse x = Complexes.built(text);
            int rank = x.rank(x.first(0), x.first(1), x.first(2), x.first(3));
            check.due(text + " first(4)", x.first(4), rank);
            check.hold(text + " the RANK is above 0", rank > 0);
        }
    }

    private static void itIsPlain() {
        check.sentence("NONE: it is PLAIN");
        for (int n = 1; n <= 6; n++) {
            first(Complexes.empty(n), NONE, NONE, NONE, NONE, NONE);
            first(Complexes.full(n), NONE, NONE, NONE, NONE, NONE);
            first(Complexes.hollow(n), NONE, NONE, NONE, NONE, NONE);
        }
        first("4: 01 12 23", NONE, NONE, NONE, NONE, NONE);
        first(Complexes.PLANE, NONE, NONE, NONE, NONE, NONE);
    }

    private static void anotherWhat() {
        check.sentence("or another what.");
        for (String text : new String[] {Complexes.SQUARE, "4: 01 12 23", "1:"}) {
            HoleHouse x = Complexes.built(text);
            for (int what : new int[] {-1, 5, 6, 7}) {
                check.due(text + " first(" + what + ")", x.first(what), NONE);
            }
            for (int what : Complexes.FAR) {
                check.due(text + " first(" + what + ")", x.first(what), NONE);
            }
        }
    }

    private static void ofTheComplexAsItIs() {
        HoleHouse x = Complexes.built(Complexes.PENTAGON);
        check.due("first(0)", x.first(0), 5);
        x.cut(3);
        check.due("first(0) when the ring is cut", x.first(0), NONE);
        check.due("first(4) when the ring is cut", x.first(4), NONE);
        x.undo();
        check.due("first(0) when the cut is taken back", x.first(0), 5);
        check.due("first(1) when the cut is taken back", x.first(1), 26);
        x.points(4);
        check.due("first(0) of no FACES", x.first(0), NONE);
        x.points(5);
        check.due("first(0) of no FACES", x.first(0), NONE);
    }
}
