import java.util.ArrayList;
import java.util.HashSet;
import java.util.List;
import java.util.Set;

/** The document's Terms, second part: MARKS, PRODUCTS, RANKS, PLAIN and THE FIRST, gone through one by one. */
public final class TermsProductsTest {
    private static final int NONE = HoleHouse.NONE;
    /** Here closed marks are not 1 on one FACE alone, and others are not closed. */
    private static final String[] LARGER = {Complexes.PENTAGON, "5: 02 03 13 14 24", "5: 03 04 13 14 23 24",
        "5: 02 03 14 24 34", "5: 013 123 023 014 124 024", "5: 012 123 014 024 134 234", "5: 013 014 23 24",
        "5: 034 134 23 24", "5: 03 04 123 124"};
    private static final int EACH = 60;
    private static final List<String> EXAMPLES = examples();
    private static final Check check = new Check("Terms");

    public static void main(String[] args) {
        ranks();
        plain();
        byJFirst();
        thenByL();
        jBelowL();
        check.finish();
    }

    /** With some of those of five points, too. */
    private static List<String> examples() {
        List<String> texts = Complexes.smallAnd(LARGER);
        List<String> ofFive = Complexes.all(5);
        for (int i = 0; i < ofFive.size(); i += EACH) {
            texts.add(ofFive.get(i));
        }
        return texts;
    }

    /** Every RANK of every example by the words of the document alone. */
    private static void ranks() {
        check.sentence(
            "MARKS a of PART J: functions from its FACES of dimension a to 0, 1;",
            "the RISE of one is the MARK a + 1 that is, on each FACE, the sum of it over the FACE's border, modulo 2;",
            "CLOSED is one whose RISE is 0.",
            "PRODUCT of a MARK a of J and a MARK b of L (J and L without a common point, neither empty):",
            "the MARK a + b + 1 of J and L together that is 1 just on those FACES whose part in J has",
            "dimension a, in L dimension b, and both are marked 1.",
            "RANK a, b of J, L: how many independent ones there are among PRODUCTS of CLOSED ones,",
            "of which none but nothing is a RISE: the dimension of all sums of these PRODUCTS together with",
            "all RISES (of MARKS a + b), less that of all RISES.");
        for (String text : EXAMPLES) {
            long family = Complexes.family(text);
            int sets = 1 << Complexes.points(text);
            for (int j = 1; j < sets; j++) {
                HoleHouse x = Complexes.built(text);
                for (int l = 1; l < sets; l++) {
                    for (int ab = 0; ab < 9 && (j & l) == 0; ab++) {
                        int want = rank(family, j, l, ab / 3, ab % 3);
                        String call = text + " rank(" + j + ", " + l + ", " + ab / 3 + ", " + ab % 3 + ")";
                        check.due(call, x.rank(j, l, ab / 3, ab % 3), want);
                    }
                }
            }
        }
    }

    /** All MARKS, each as the FACES on which it is 1. */
    private static List<Long> marks(long family, int part, int a) {
        List<Long> found = new ArrayList<>(List.of(0L));
        for (int face : Complexes.facesOf(family, part, a)) {
            for (int i = found.size() - 1; i >= 0; i--) {
                found.add(found.get(i) | 1L << face);
            }
        }
        return found;
    }

    private static long rise(long family, int part, int a, long mark) {
        long rise = 0L;
        for (int face : Complexes.facesOf(family, part, a + 1)) {
            int sum = 0;
            for (int p = 0; p < 6; p++) {
                if ((face >> p & 1) == 1) {
                    sum += (int) (mark >>> (face & ~(1 << p)) & 1L);
                }
            }
            rise |= (long) (sum % 2) << face;
        }
        return rise;
    }

    private static List<Long> closed(long family, int part, int a) {
        List<Long> found = new ArrayList<>();
        for (long mark : marks(family, part, a)) {
            if (rise(family, part, a, mark) == 0L) {
                found.add(mark);
            }
        }
        return found;
    }

    private static int rank(long family, int j, int l, int a, int b) {
        List<Integer> faces = Complexes.facesOf(family, j | l, a + b + 1);
        if (faces.isEmpty()) {
            return 0;
        }
        Set<Long> sums = new HashSet<>();
        for (long mark : marks(family, j | l, a + b)) {
            sums.add(rise(family, j | l, a + b, mark));
        }
        int rises = Complexes.independent(sums.size());
        List<Long> ofL = closed(family, l, b);
        for (long one : closed(family, j, a)) {
            for (long other : ofL) {
                addSums(sums, product(faces, j, one, l, other));
            }
        }
        return Complexes.independent(sums.size()) - rises;
    }

    private static long product(List<Integer> faces, int j, long one, int l, long other) {
        long product = 0L;
        for (int face : faces) {
            if ((one >>> (face & j) & 1L) == 1L && (other >>> (face & l) & 1L) == 1L) {
                product |= 1L << face;
            }
        }
        return product;
    }

    private static void addSums(Set<Long> sums, long more) {
        if (!sums.contains(more)) {
            for (long sum : List.copyOf(sums)) {
                sums.add(sum ^ more);
            }
        }
    }

    private static void plain() {
        check.sentence("PLAIN is a COMPLEX, if all RANKS are 0;");
        for (String text : EXAMPLES) {
            long family = Complexes.family(text);
            int sets = 1 << Complexes.points(text);
            boolean plain = true;
            for (int j = 1; j < sets; j++) {
                for (int l = j + 1; l < sets; l++) {
                    for (int ab = 0; ab < 9 && (j & l) == 0; ab++) {
                        plain &= rank(family, j, l, ab / 3, ab % 3) == 0;
                    }
                }
            }
            HoleHouse x = Complexes.built(text);
            check.due(text + " look(5)", x.look(5), plain ? 1 : 0);
            check.due(text + " first(0) is NONE", x.first(0) == NONE ? 1 : 0, plain ? 1 : 0);
        }
    }

    private static void first(String text, int j, int l, int a, int b) {
        HoleHouse x = Complexes.built(text);
        check.due(text + " first(0)", x.first(0), j);
        check.due(text + " first(1)", x.first(1), l);
        check.due(text + " first(2)", x.first(2), a);
        check.due(text + " first(3)", x.first(3), b);
        check.due(text + " first(4)", x.first(4), 1);
    }

    /** 14, 17 and 11, 20 have products here, too, with a lesser L. */
    private static void byJFirst() {
        check.sentence("else THE FIRST is told: by J, then L, then a, then b (the lesser first),");
        first("5: 02 03 13 14 24", 3, 28, 0, 0);
        check.due("rank(14, 17, 0, 0)", Complexes.built("5: 02 03 13 14 24").rank(14, 17, 0, 0), 1);
        first("6: 13 23 04 14 025 35", 3, 28, 0, 0);
        check.due("rank(11, 20, 0, 0)", Complexes.built("6: 13 23 04 14 025 35").rank(11, 20, 0, 0), 1);
    }

    /** 12 has a product with 19, too. */
    private static void thenByL() {
        first("5: 02 03 14 24 34", 12, 17, 0, 0);
        check.due("rank(12, 19, 0, 0)", Complexes.built("5: 02 03 14 24 34").rank(12, 19, 0, 0), 1);
        first(Complexes.BIPARTITE, 3, 24, 0, 0);
        check.due("rank(3, 40, 0, 0)", Complexes.built(Complexes.BIPARTITE).rank(3, 40, 0, 0), 1);
    }

    /** 9 and 6 have a product whichever comes first; 9 with 6 would come behind 6 with 9 anyway, 24 with 7 would not. */
    private static void jBelowL() {
        check.sentence("J below L.");
        first("4: 01 02 13 23", 6, 9, 0, 0);
        first("5: 013 123 023 014 124 024", 7, 24, 1, 0);
        check.due("rank(24, 7, 0, 1)", Complexes.built("5: 013 123 023 014 124 024").rank(24, 7, 0, 1), 1);
        for (String text : EXAMPLES) {
            HoleHouse x = Complexes.built(text);
            check.hold(text + " J is below L", x.first(0) == NONE || x.first(0) < x.first(1));
        }
    }
}
