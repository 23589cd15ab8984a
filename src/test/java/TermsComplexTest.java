import java.util.HashSet;
import java.util.List;
import java.util.Set;

/** The document's Terms, first part: FACES, MISSING, FLAG, PARTS, HOLES, the two SPACES and TOWERS. */
public final class TermsComplexTest {
    private static final int NONE = HoleHouse.NONE;
    private static final List<String> EXAMPLES = Complexes.smallAnd(Complexes.PENTAGON, "5: 012 23 4",
        "5: 013 123 023 014 124 024", Complexes.hollow(5), Complexes.full(5), Complexes.skeleton(5, 2),
        Complexes.BIPARTITE, Complexes.OCTAHEDRON);
    private static final Check check = new Check("Terms");

    public static void main(String[] args) {
        points();
        numbersAndDimensions();
        theEmptyOneAlways();
        allSetsWithin();
        aPointNeedNotBeAFace();
        atFirst();
        missing();
        flag();
        parts();
        holesByChains();
        theEmptyPart();
        spacesAndTowers();
        none();
        check.finish();
    }

    private static void points() {
        check.sentence("A COMPLEX has N points 0 .. N - 1 (N 1 .. 6), and FACES: sets of points");
        for (int n = 1; n <= 6; n++) {
            HoleHouse x = new HoleHouse();
            check.due("points(" + n + ")", x.points(n), true);
            check.due("alike(" + (n - 1) + ", 0)", x.alike(n - 1, 0), 1);
            check.due("alike(" + n + ", 0)", x.alike(n, 0), NONE);
            check.due("alike(-1, 0)", x.alike(-1, 0), NONE);
        }
        HoleHouse x = new HoleHouse();
        check.due("points(0)", x.points(0), false);
        check.due("points(7)", x.points(7), false);
    }

    private static void numbersAndDimensions() {
        check.sentence("(point p counts 2 to the p; of k + 1 points: of dimension k)");
        for (int p = 0; p < 6; p++) {
            HoleHouse x = Complexes.built("6: " + p);
            check.due("has(2 to the " + p + ")", x.has(1 << p), 1);
            check.due("faces(0)", x.faces(0), 1);
        }
        for (int n = 1; n <= 6; n++) {
            HoleHouse x = Complexes.built("6: " + "012345".substring(0, n));
            check.due("look(2)", x.look(2), n - 1);
            check.due("faces(" + (n - 1) + ")", x.faces(n - 1), 1);
        }
    }

    private static void theEmptyOneAlways() {
        check.sentence("the empty one (dimension -1) always");
        HoleHouse x = new HoleHouse();
        emptyIsThere("new", x);
        x.points(6);
        emptyIsThere("points(6)", x);
        x.face(63);
        x.cut(0);
        emptyIsThere("cut(0)", x);
        x.link(31);
        emptyIsThere("link(31)", x);
        x.cut(1);
        emptyIsThere("cut() of the last point", x);
        x.dual();
        emptyIsThere("dual()", x);
        Tapes.tell(x, "2:");
        x.read();
        emptyIsThere("read()", x);
        x.undo();
        emptyIsThere("undo()", x);
    }

    private static void emptyIsThere(String when, HoleHouse x) {
        check.due(when + ": has(0)", x.has(0), 1);
        check.due(when + ": faces(-1)", x.faces(-1), 1);
    }

    private static void allSetsWithin() {
        check.sentence("and with each FACE all sets within it.");
        HoleHouse x = new HoleHouse();
        x.points(6);
        withinToo("face(46)", x, x.face(46));
        withinToo("face(19)", x, x.face(19));
        withinToo("cut(6)", x, x.cut(6));
        withinToo("dual()", x, x.dual() ? 1 : 0);
        withinToo("link(2)", x, x.link(2));
    }

    private static void withinToo(String move, HoleHouse x, int answer) {
        check.hold(move + " was done", answer > 0);
        int[] has = new int[1 << x.look(0)];
        for (int set = 0; set < has.length; set++) {
            has[set] = x.has(set);
        }
        for (int set = 0; set < has.length; set++) {
            for (int within = 0; within < set; within++) {
                if ((within & ~set) == 0 && has[set] == 1) {
                    check.due(move + ": has(" + within + ") within " + set, has[within], 1);
                }
            }
        }
    }

    private static void aPointNeedNotBeAFace() {
        check.sentence("(A point need not be a FACE.)");
        HoleHouse x = Complexes.built("3: 02");
        check.due("look(0)", x.look(0), 3);
        check.due("has(2)", x.has(2), 0);
        check.due("alike(1, 1)", x.alike(1, 1), 1);
        check.due("holes(2, -1)", x.holes(2, -1), 1);
        check.due("missing(0)", x.missing(0), 2);
        check.due("rank(2, 5, 0, 0)", x.rank(2, 5, 0, 0), 0);
    }

    private static void atFirst() {
        check.sentence("At first N is 4, with the empty FACE alone.");
        check.everySet("new", new HoleHouse(), "4:");
    }

    private static void missing() {
        check.sentence("MISSING is a set that is no FACE, but all smaller sets within it are.");
        for (String text : EXAMPLES) {
            HoleHouse x = Complexes.built(text);
            long family = Complexes.family(text);
            int found = 0;
            for (int set = 0; set < 1 << Complexes.points(text); set++) {
                boolean lacks = (family >>> set & 1L) == 0L;
                for (int small = 0; small < set; small++) {
                    lacks &= (small & ~set) != 0 || (family >>> small & 1L) == 1L;
                }
                if (lacks) {
                    check.due(text + " missing(" + found + ")", x.missing(found), set);
                    found++;
                }
            }
            check.due(text + " look(3)", x.look(3), found);
        }
        HoleHouse x = Complexes.built("3: 01");
        check.due("missing(1): point 2 alone, no set with it", x.missing(1), NONE);
        check.due("missing(0) of a full one: never the empty set", Complexes.built("1: 0").missing(0), NONE);
    }

    private static void flag() {
        check.sentence("FLAG is a COMPLEX, if each MISSING one has 2 points.");
        check.due("one MISSING of 2 points", Complexes.built("3: 01 12").look(4), 1);
        check.due("none MISSING", Complexes.built("3: 012").look(4), 1);
        check.due("one MISSING of 1 point", Complexes.built("3: 01").look(4), 0);
        check.due("one MISSING of 3 points", Complexes.built("3: 01 12 02").look(4), 0);
        check.due("one MISSING of 6 points", Complexes.built(Complexes.HOLLOW).look(4), 0);
        check.due("some of 2, one of 3", Complexes.built("4: 01 12 02 3").look(4), 0);
        check.due("some of 2, one of 1", Complexes.built("4: 01 12").look(4), 0);
    }

    private static void parts() {
        check.sentence("PART J (a set of points): the FACES within J.");
        HoleHouse x = Complexes.built("5: 012 23 34");
        check.due("holes(7, 0) of one FACE", x.holes(7, 0), 0);
        check.due("holes(9, 0) of two points", x.holes(9, 0), 1);
        check.due("holes(27, 0): 01 and 34", x.holes(27, 0), 1);
        check.due("holes(31, 0)", x.holes(31, 0), 0);
        check.due("holes(11, 0): 01 and 3, and not by 2", x.holes(11, 0), 1);
    }

    /** Goes through all CHAINS: those without BORDER and the BORDERS are both a power of 2, whose exponent counts. */
    private static void holesByChains() {
        check.sentence(
            "HOLES of dimension k of PART J, modulo 2: with CHAINS k the sets of FACES of dimension k of it,",
            "and the BORDER of a FACE: all that have one point less:",
            "how many CHAINS k there are without BORDER, in independent ones,",
            "less how many independent ones of these are BORDERS of CHAINS k + 1.");
        for (String text : EXAMPLES) {
            HoleHouse x = Complexes.built(text);
            long family = Complexes.family(text);
            int all = (1 << Complexes.points(text)) - 1;
            for (int part : new int[] {all, all & 27, all & 7, all & 21}) {
                for (int k = -1; k <= 5; k++) {
                    int without = withoutBorder(family, part, k);
                    int want = without - Complexes.independent(borders(family, part, k + 1).size());
                    check.due(text + " holes(" + part + ", " + k + ")", x.holes(part, k), want);
                }
            }
        }
    }

    /** What the FACES of the CHAIN have as BORDER, those left out that come twice. */
    private static long border(List<Integer> faces, int chain) {
        long border = 0L;
        for (int i = 0; i < faces.size(); i++) {
            for (int p = 0; p < 6 && (chain >> i & 1) == 1; p++) {
                if ((faces.get(i) >> p & 1) == 1) {
                    border ^= 1L << (faces.get(i) & ~(1 << p));
                }
            }
        }
        return border;
    }

    private static Set<Long> borders(long family, int part, int k) {
        List<Integer> faces = Complexes.facesOf(family, part, k);
        Set<Long> found = new HashSet<>();
        for (int chain = 0; chain < 1 << faces.size(); chain++) {
            found.add(border(faces, chain));
        }
        return found;
    }

    private static int withoutBorder(long family, int part, int k) {
        List<Integer> faces = Complexes.facesOf(family, part, k);
        int count = 0;
        for (int chain = 0; chain < 1 << faces.size(); chain++) {
            count += border(faces, chain) == 0L ? 1 : 0;
        }
        return Complexes.independent(count);
    }

    private static void theEmptyPart() {
        check.sentence("(Of the empty PART: one of dimension -1.)");
        for (String text : EXAMPLES) {
            HoleHouse x = Complexes.built(text);
            for (int k = -1; k <= 5; k++) {
                check.due(text + " holes(0, " + k + ")", x.holes(0, k), k == -1 ? 1 : 0);
            }
        }
    }

    /** The sums themselves, over the object's own holes(). */
    private static void spacesAndTowers() {
        for (String text : EXAMPLES) {
            int[] round = new int[14];
            int[] straight = new int[14];
            int[][] towers = new int[7][7];
            HoleHouse x = Complexes.built(text);
            for (int part = 0; part < 1 << Complexes.points(text); part++) {
                for (int k = -1; k < Complexes.points(text); k++) {
                    int size = Integer.bitCount(part);
                    int holes = k < size ? x.holes(part, k) : 0;
                    round[k + size + 1] += holes;
                    straight[k + 1] += holes;
                    if (k < size) {
                        towers[size - k - 1][size] += holes;
                    }
                }
            }
            compare(text, round, straight, towers);
        }
    }

    private static void compare(String text, int[] round, int[] straight, int[][] towers) {
        HoleHouse x = Complexes.built(text);
        check.sentence("THE ROUND SPACE has in degree l the sum, over all J, of HOLES of dimension l - |J| - 1 of PART J;");
        for (int l = 0; l <= 12; l++) {
            check.due(text + " space(" + l + ", 0)", x.space(l, 0), round[l]);
        }
        check.sentence("THE STRAIGHT SPACE that of HOLES of dimension l - 1.");
        for (int l = 0; l <= 12; l++) {
            check.due(text + " space(" + l + ", 1)", x.space(l, 1), straight[l]);
        }
        check.sentence("A TOWER i, j: the sum, over all J of j points, of HOLES of dimension j - i - 1.");
        for (int i = 0; i <= 6; i++) {
            for (int j = 0; j <= 6; j++) {
                check.due(text + " tower(" + i + ", " + j + ")", x.tower(i, j), towers[i][j]);
            }
        }
    }

    private static void none() {
        check.sentence("The constants: `NONE = -1`: There is none.");
        check.due("NONE", HoleHouse.NONE, -1);
    }
}
