/** Promise 11: missing. */
public final class Promise11Test {
    private static final int NONE = HoleHouse.NONE;
    private static final Check check = new Check("Promise 11");

    public static void main(String[] args) {
        byNumbers();
        asManyAsCanBe();
        noneSuch();
        check.finish();
    }

    private static void missing(String text, int... want) {
        HoleHouse x = Complexes.built(text);
        for (int i = 0; i < want.length; i++) {
            check.due(text + " missing(" + i + ")", x.missing(i), want[i]);
        }
        for (int i : new int[] {-1, want.length, want.length + 1, 63, 64}) {
            check.due(text + " missing(" + i + ")", x.missing(i), NONE);
        }
    }

    private static void byNumbers() {
        check.sentence("The i-th (0 ..) MISSING set by numbers;");
        missing("5: 01 12 02 3", 7, 9, 10, 12, 16);
        missing(Complexes.SQUARE, 5, 10);
        missing("4:", 1, 2, 4, 8);
        missing("3: 0 2", 2, 5);
        missing(Complexes.OCTAHEDRON, 3, 12, 48);
        missing("1:", 1);
        missing("6: 01234", 32);
    }

    private static void asManyAsCanBe() {
        HoleHouse x = Complexes.built(Complexes.skeleton(6, 2));
        int i = 0;
        for (int set = 0; set < 64; set++) {
            if (Integer.bitCount(set) == 3) {
                check.due("missing(" + i + ")", x.missing(i), set);
                i++;
            }
        }
        check.due("missing(20)", x.missing(20), NONE);
    }

    private static void noneSuch() {
        check.sentence("NONE if there is none such.");
        for (int n = 1; n <= 6; n++) {
            missing(Complexes.full(n));
            missing(Complexes.hollow(n), (1 << n) - 1);
        }
        HoleHouse x = Complexes.built(Complexes.SQUARE);
        for (int i : Complexes.FAR) {
            check.due("missing(" + i + ")", x.missing(i), NONE);
        }
    }
}
