import java.util.ArrayList;
import java.util.List;

/** Complexes told by texts that are taken apart here, so that read() and write() need not be right for it. */
final class Complexes {
    static final String SQUARE = "4: 01 12 03 23";
    static final String PENTAGON = "5: 01 12 23 04 34";
    static final String OCTAHEDRON = "6: 024 124 034 134 025 125 035 135";
    static final String BIPARTITE = "6: 03 13 23 04 14 24 05 15 25";
    static final String HOLLOW = "6: 01234 01235 01245 01345 02345 12345";
    /** The projective plane: what its holes are depends on their being counted modulo 2. */
    static final String PLANE = "6: 012 013 024 134 234 125 035 235 045 145";

    /** What can't be a set of up to six points; shifts and masks would take some of these for others. */
    static final int[] NO_SETS = {64, 65, 127, 128, 1 << 16, -1, -64, Integer.MIN_VALUE, Integer.MAX_VALUE};
    static final int[] FAR = {-2, -3, 1 << 16, Integer.MIN_VALUE, Integer.MIN_VALUE + 1, Integer.MAX_VALUE};

    private Complexes() {
    }

    static int points(String text) {
        return text.charAt(0) - '0';
    }

    /** The sets that the text names. */
    static List<Integer> named(String text) {
        List<Integer> sets = new ArrayList<>();
        for (String word : text.substring(2).trim().split(" ")) {
            int set = 0;
            for (char digit : word.toCharArray()) {
                set += 1 << digit - '0';
            }
            sets.add(set);
        }
        return sets;
    }

    /** Bit s is 1 if the set s is a FACE. */
    static long family(String text) {
        long family = 0L;
        for (int named : named(text)) {
            for (int set = 0; set < 64; set++) {
                if ((set & ~named) == 0) {
                    family |= 1L << set;
                }
            }
        }
        return family;
    }

    /** The complex by points() and face() alone. */
    static HoleHouse built(String text) {
        HoleHouse house = new HoleHouse();
        house.points(points(text));
        for (int set : named(text)) {
            house.face(set);
        }
        return house;
    }

    static String empty(int n) {
        return n + ":";
    }

    /** All sets of n points. */
    static String full(int n) {
        return n + ": " + "012345".substring(0, n);
    }

    /** All sets of n points but the greatest one. */
    static String hollow(int n) {
        return skeleton(n, n - 1);
    }

    /** All sets of n points that have no more than the given number. */
    static String skeleton(int n, int size) {
        StringBuilder text = new StringBuilder(n + ":");
        for (int set = 1; set < 1 << n; set++) {
            if (Integer.bitCount(set) == size) {
                text.append(" ").append(digits(set));
            }
        }
        return text.toString();
    }

    /** Every complex of n points; of five there are 7580, so not for six. */
    static List<String> all(int n) {
        List<String> texts = new ArrayList<>();
        for (long family : families(n)) {
            if (family != 0L) {
                texts.add(text(n, family));
            }
        }
        return texts;
    }

    /** Every complex of up to four points, and the given ones. */
    static List<String> smallAnd(String... larger) {
        List<String> texts = new ArrayList<>();
        for (int n = 1; n <= 4; n++) {
            texts.addAll(all(n));
        }
        texts.addAll(List.of(larger));
        return texts;
    }

    /** The FACES of dimension k within the part. */
    static List<Integer> facesOf(long family, int part, int k) {
        List<Integer> found = new ArrayList<>();
        for (int set = 0; set < 64; set++) {
            if ((set & ~part) == 0 && (family >>> set & 1L) == 1L && Integer.bitCount(set) == k + 1) {
                found.add(set);
            }
        }
        return found;
    }

    /** How many independent ones there are, if all their sums are so many. */
    static int independent(int sums) {
        return Integer.numberOfTrailingZeros(sums);
    }

    /** The FACES without the highest point, and those with it: without it they must be FACES, too. */
    private static List<Long> families(int n) {
        if (n == 0) {
            return List.of(0L, 1L);
        }
        List<Long> found = new ArrayList<>();
        List<Long> smaller = families(n - 1);
        for (long without : smaller) {
            for (long with : smaller) {
                if ((with & ~without) == 0L) {
                    found.add(without | with << (1 << n - 1));
                }
            }
        }
        return found;
    }

    private static String text(int n, long family) {
        StringBuilder text = new StringBuilder(n + ":");
        for (int set = 1; set < 1 << n; set++) {
            boolean greatest = (family >>> set & 1L) == 1L;
            for (int point = 0; point < n; point++) {
                int more = set | 1 << point;
                greatest &= more == set || (family >>> more & 1L) == 0L;
            }
            if (greatest) {
                text.append(" ").append(digits(set));
            }
        }
        return text.toString();
    }

    static String digits(int set) {
        StringBuilder text = new StringBuilder();
        for (int point = 0; point < 6; point++) {
            if ((set >> point & 1) == 1) {
                text.append(point);
            }
        }
        return text.toString();
    }
}
