/** Promise 4: cut. */
public final class Promise04Test {
    private static final int NONE = HoleHouse.NONE;
    private static final Check check = new Check("Promise 4");

    public static void main(String[] args) {
        withAllThatHaveItWithin();
        howMany();
        itIsNone();
        itIsEmpty();
        nothingIsDone();
        check.finish();
    }

    private static void withAllThatHaveItWithin() {
        check.sentence("A FACE goes, with all that have it within: how many;");
        for (int n = 1; n <= 6; n++) {
            for (int set = 1; set < 1 << n; set++) {
                HoleHouse x = Complexes.built(Complexes.full(n));
                check.due("cut(" + set + ") of a full " + n, x.cut(set), 1 << n - Integer.bitCount(set));
                for (int other = 0; other < 1 << n; other++) {
                    check.due("cut(" + set + "), has(" + other + ")", x.has(other), (other & set) == set ? 0 : 1);
                }
            }
        }
    }

    private static void howMany() {
        HoleHouse x = Complexes.built(Complexes.full(4));
        check.due("cut(15), the greatest alone", x.cut(15), 1);
        check.due("cut(3)", x.cut(3), 3);
        check.due("cut(8)", x.cut(8), 6);
        check.complex("left", x, "4: 02 12");
        HoleHouse one = Complexes.built("1: 0");
        check.due("cut(1), the last but the empty one", one.cut(1), 1);
        check.complex("left", one, "1:");
    }

    private static void itIsNone() {
        check.sentence("NONE, and nothing is done: it is none");
        HoleHouse x = Complexes.built(Complexes.SQUARE);
        for (int set : new int[] {5, 10, 7, 11, 13, 14, 15, 16, 17, 32}) {
            check.due("cut(" + set + ")", x.cut(set), NONE);
        }
        for (int set : Complexes.NO_SETS) {
            check.due("cut(" + set + ")", x.cut(set), NONE);
        }
        check.complex("refused", x, Complexes.SQUARE);
        check.due("cut(3)", x.cut(3), 1);
        check.due("cut(3) when it is gone", x.cut(3), NONE);
        for (int n = 1; n <= 6; n++) {
            HoleHouse full = Complexes.built(Complexes.full(n));
            check.due("cut(" + (1 << n) + ") of a full " + n, full.cut(1 << n), NONE);
            check.due("cut(64) of a full " + n, full.cut(64), NONE);
            check.due("cut(65) of a full " + n, full.cut(65), NONE);
            check.complex("refused", full, Complexes.full(n));
        }
    }

    private static void itIsEmpty() {
        check.sentence("or empty.");
        for (int n = 1; n <= 6; n++) {
            HoleHouse full = Complexes.built(Complexes.full(n));
            check.due("cut(0)", full.cut(0), NONE);
            check.complex("cut(0)", full, Complexes.full(n));
            HoleHouse empty = Complexes.built(Complexes.empty(n));
            check.due("cut(0)", empty.cut(0), NONE);
            check.complex("cut(0)", empty, Complexes.empty(n));
        }
    }

    private static void nothingIsDone() {
        HoleHouse x = new HoleHouse();
        x.face(3);
        x.face(12);
        check.due("cut(0)", x.cut(0), NONE);
        check.due("cut(5)", x.cut(5), NONE);
        check.due("cut(16)", x.cut(16), NONE);
        check.due("undo() of face(12), not of what was refused", x.undo(), true);
        check.complex("behind it", x, "4: 01");
    }
}
