/**
 * A complex of up to six points, its holes and their products, told and written as texts.
 *
 * <p>A family of sets is held in one long: bit s is 1 if the set with the number s belongs to it. Families of
 * sets with different numbers of points never share a bit, which several of the classes below make use of.
 */
public final class HoleHouse {
    public static final int NONE = -1;

    private static final int FIRST_POINTS = 4;
    private static final int MOST_POINTS = 6;
    private static final int SETS = 64;
    private static final int MOST_DIMENSION = 5;
    private static final int MOST_DEGREE = 12;
    private static final int TAPE_LENGTH = 200;
    private static final int FED = 20;
    private static final long EMPTY_ALONE = 1L;

    private final History history;
    private final Row tape;
    private final Row output;
    private final Reader reader;
    private final Parts parts;
    private final Products products;
    private final Turns turns;
    private int points;
    private long family;
    private int faultPlace;

    public HoleHouse() {
        history = new History();
        tape = new Row();
        output = new Row();
        reader = new Reader();
        parts = new Parts();
        products = new Products(parts);
        turns = new Turns();
        points = FIRST_POINTS;
        family = EMPTY_ALONE;
        faultPlace = NONE;
    }

    // ---- moves

    public boolean points(int n) {
        if (n < 1 || n > MOST_POINTS) {
            return false;
        }
        change(n, EMPTY_ALONE);
        return true;
    }

    public int face(int set) {
        if (!isSet(set)) {
            return NONE;
        }
        int before = Long.bitCount(family);
        change(points, family | Sets.inside(set));
        return Long.bitCount(family) - before;
    }

    public int cut(int set) {
        if (!isNonemptyFace(set)) {
            return NONE;
        }
        int before = Long.bitCount(family);
        change(points, family & ~Sets.around(set));
        return before - Long.bitCount(family);
    }

    public int link(int set) {
        if (!isNonemptyFace(set) || set == allPoints()) {
            return NONE;
        }
        int rest = allPoints() & ~set;
        int left = Integer.bitCount(rest);
        long linked = 0L;
        for (int renamed = 0; renamed < (1 << left); renamed++) {
            if (Sets.holds(family, set | Sets.spread(renamed, rest))) {
                linked |= 1L << renamed;
            }
        }
        change(left, linked);
        return left;
    }

    public boolean dual() {
        int all = allPoints();
        if (Sets.holds(family, all)) {
            return false;
        }
        long turned = 0L;
        for (int set = 0; set <= all; set++) {
            if (!Sets.holds(family, all & ~set)) {
                turned |= 1L << set;
            }
        }
        change(points, turned);
        return true;
    }

    public boolean undo() {
        if (!history.drop()) {
            return false;
        }
        points = history.droppedPoints();
        family = history.droppedFamily();
        return true;
    }

    // ---- the complex

    public int look(int what) {
        switch (what) {
            case 0:
                return points;
            case 1:
                return Long.bitCount(family);
            case 2:
                return greatestDimension();
            case 3:
                return Long.bitCount(missingFamily());
            case 4:
                return asNumber((missingFamily() & ~Sets.ofSize(2)) == 0L);
            case 5:
                products.know(points, family);
                return asNumber(products.arePlain());
            case 6:
                turns.know(points, family);
                return turns.howMany();
            case 7:
                turns.know(points, family);
                return turns.classes();
            default:
                return NONE - 1;
        }
    }

    public int has(int set) {
        return isSet(set) ? asNumber(Sets.holds(family, set)) : NONE;
    }

    public int faces(int k) {
        return Parts.isDimension(k) ? Long.bitCount(family & Sets.ofSize(k + 1)) : NONE;
    }

    public int missing(int i) {
        if (i < 0) {
            return NONE;
        }
        long lacking = missingFamily();
        int ahead = 0;
        for (int set = 0; set < SETS; set++) {
            if (Sets.holds(lacking, set)) {
                if (ahead == i) {
                    return set;
                }
                ahead++;
            }
        }
        return NONE;
    }

    // ---- holes and their products

    public int holes(int part, int k) {
        if (!isSet(part) || !Parts.isDimension(k)) {
            return NONE;
        }
        parts.know(points, family);
        return parts.holesOf(part, k);
    }

    public int space(int l, int what) {
        if (l < 0 || l > MOST_DEGREE || what < 0 || what > 1) {
            return NONE;
        }
        parts.know(points, family);
        int sum = 0;
        for (int part = 0; part <= allPoints(); part++) {
            int shift = what == 0 ? Integer.bitCount(part) : 0;
            sum += parts.holesOf(part, l - shift - 1);
        }
        return sum;
    }

    public int tower(int i, int j) {
        if (i < 0 || i > MOST_POINTS || j < 0 || j > MOST_POINTS) {
            return NONE;
        }
        parts.know(points, family);
        int sum = 0;
        for (int part = 0; part <= allPoints(); part++) {
            if (Integer.bitCount(part) == j) {
                sum += parts.holesOf(part, j - i - 1);
            }
        }
        return sum;
    }

    public int rank(int j, int l, int a, int b) {
        boolean setsFit = isSet(j) && isSet(l) && j != 0 && l != 0 && (j & l) == 0;
        boolean marksFit = a >= 0 && a <= MOST_DIMENSION && b >= 0 && b <= MOST_DIMENSION;
        if (!setsFit || !marksFit) {
            return NONE;
        }
        parts.know(points, family);
        return products.measure(family, j, l, a, b);
    }

    public int first(int what) {
        products.know(points, family);
        return products.told(what);
    }

    // ---- points that turn into one another

    public int alike(int p, int q) {
        if (!isPoint(p) || !isPoint(q)) {
            return NONE;
        }
        turns.know(points, family);
        return asNumber(turns.bring(p, q));
    }

    // ---- texts

    public int feed(int a, int b, int c, int d, int e) {
        if (tape.size() + FED > TAPE_LENGTH) {
            return NONE;
        }
        tape.addNumber(a);
        tape.addNumber(b);
        tape.addNumber(c);
        tape.addNumber(d);
        tape.addNumber(e);
        return tape.size();
    }

    public boolean end(int n) {
        if (n < 0 || n > tape.size()) {
            return false;
        }
        tape.shorten(n);
        return true;
    }

    public int read() {
        faultPlace = reader.parse(tape);
        tape.shorten(0);
        if (faultPlace != NONE) {
            return NONE;
        }
        change(reader.toldPoints(), reader.toldFamily());
        return Long.bitCount(family);
    }

    public int fault() {
        return faultPlace;
    }

    public int write() {
        output.shorten(0);
        output.add('0' + points);
        output.add(':');
        for (int set = 1; set <= allPoints(); set++) {
            if (Sets.holds(family, set) && (family & Sets.above(set)) == 0L) {
                output.add(' ');
                output.addDigitsOf(set);
            }
        }
        return output.size();
    }

    public int out(int i) {
        return output.at(i);
    }

    public int take() {
        tape.shorten(0);
        for (int i = 0; i < output.size(); i++) {
            tape.add(output.at(i));
        }
        return tape.size();
    }

    // ---- what several of these need

    private void change(int newPoints, long newFamily) {
        history.keep(points, family);
        points = newPoints;
        family = newFamily;
    }

    private int allPoints() {
        return (1 << points) - 1;
    }

    private boolean isSet(int set) {
        return set >= 0 && set <= allPoints();
    }

    private boolean isNonemptyFace(int set) {
        return set != 0 && isSet(set) && Sets.holds(family, set);
    }

    private boolean isPoint(int p) {
        return p >= 0 && p < points;
    }

    private static int asNumber(boolean holds) {
        return holds ? 1 : 0;
    }

    private int greatestDimension() {
        for (int k = MOST_DIMENSION; k >= 0; k--) {
            if ((family & Sets.ofSize(k + 1)) != 0L) {
                return k;
            }
        }
        return NONE;
    }

    private long missingFamily() {
        long lacking = 0L;
        for (int set = 1; set <= allPoints(); set++) {
            // All smaller sets are FACES as soon as those with one point less are.
            if (!Sets.holds(family, set) && (Sets.below(set) & ~family) == 0L) {
                lacking |= 1L << set;
            }
        }
        return lacking;
    }

    /** Families of sets of up to six points. */
    private static final class Sets {
        private static final long[] BY_SIZE = {
            0x0000000000000001L,
            0x0000000100010116L,
            0x0001011601161668L,
            0x0116166816686880L,
            0x1668688068808000L,
            0x6880800080000000L,
            0x8000000000000000L
        };

        private Sets() {
        }

        static boolean holds(long family, int set) {
            return set >= 0 && set < SETS && ((family >>> set) & 1L) != 0L;
        }

        static boolean hasPoint(int set, int point) {
            return ((set >>> point) & 1) != 0;
        }

        static long ofSize(int size) {
            return size >= 0 && size < BY_SIZE.length ? BY_SIZE[size] : 0L;
        }

        /** All sets within the set, itself too. */
        static long inside(int set) {
            long within = EMPTY_ALONE;
            for (int point = 0; point < MOST_POINTS; point++) {
                if (hasPoint(set, point)) {
                    within |= within << (1 << point);
                }
            }
            return within;
        }

        /** All sets that have the set within them, itself too. */
        static long around(int set) {
            return inside((SETS - 1) & ~set) << set;
        }

        /** The sets within the set that have one point less. */
        static long below(int set) {
            long near = 0L;
            for (int point = 0; point < MOST_POINTS; point++) {
                if (hasPoint(set, point)) {
                    near |= 1L << (set & ~(1 << point));
                }
            }
            return near;
        }

        /** The sets around the set that have one point more. */
        static long above(int set) {
            long near = 0L;
            for (int point = 0; point < MOST_POINTS; point++) {
                if (!hasPoint(set, point)) {
                    near |= 1L << (set | (1 << point));
                }
            }
            return near;
        }

        /** The set whose points in the room, counted in their order, are those of the given one. */
        static int spread(int renamed, int room) {
            int spreadOut = 0;
            int nth = 0;
            for (int point = 0; point < MOST_POINTS; point++) {
                if (hasPoint(room, point)) {
                    if (hasPoint(renamed, nth)) {
                        spreadOut |= 1 << point;
                    }
                    nth++;
                }
            }
            return spreadOut;
        }
    }

    /** The latest eight complexes, to go back to. */
    private static final class History {
        private static final int KEPT = 8;

        private final int[] keptPoints;
        private final long[] keptFamilies;
        private int count;

        History() {
            keptPoints = new int[KEPT];
            keptFamilies = new long[KEPT];
        }

        void keep(int points, long family) {
            if (count >= KEPT) {
                System.arraycopy(keptPoints, 1, keptPoints, 0, KEPT - 1);
                System.arraycopy(keptFamilies, 1, keptFamilies, 0, KEPT - 1);
                count = KEPT - 1;
            }
            keptPoints[count] = points;
            keptFamilies[count] = family;
            count++;
        }

        boolean drop() {
            if (count <= 0) {
                return false;
            }
            count--;
            return true;
        }

        int droppedPoints() {
            return count < KEPT ? keptPoints[count] : FIRST_POINTS;
        }

        long droppedFamily() {
            return count < KEPT ? keptFamilies[count] : EMPTY_ALONE;
        }
    }

    /** A row of bytes of which the front is in use. */
    private static final class Row {
        private final int[] bytes;
        private int length;

        Row() {
            bytes = new int[TAPE_LENGTH];
        }

        int size() {
            return length;
        }

        int at(int i) {
            return i >= 0 && i < length && i < TAPE_LENGTH ? bytes[i] : NONE;
        }

        void add(int sign) {
            if (length >= 0 && length < TAPE_LENGTH) {
                bytes[length] = sign & 255;
                length++;
            }
        }

        void addNumber(int number) {
            add(number >>> 24);
            add(number >>> 16);
            add(number >>> 8);
            add(number);
        }

        void addDigitsOf(int set) {
            for (int point = 0; point < MOST_POINTS; point++) {
                if (Sets.hasPoint(set, point)) {
                    add('0' + point);
                }
            }
        }

        void shorten(int n) {
            if (n >= 0 && n <= length) {
                length = n;
            }
        }
    }

    /** Takes a text apart; what it tells is kept until the next one. */
    private static final class Reader {
        private int told;
        private long toldSets;

        Reader() {
            toldSets = EMPTY_ALONE;
        }

        int toldPoints() {
            return told;
        }

        long toldFamily() {
            return toldSets;
        }

        /** The place of the fault, or NONE. */
        int parse(Row text) {
            int place = behindBlanks(text, 0);
            int count = text.at(place) - '0';
            if (count < 1 || count > MOST_POINTS) {
                return place;
            }
            place = behindBlanks(text, place + 1);
            if (text.at(place) != ':') {
                return place;
            }
            told = count;
            return parseFaces(text, place + 1);
        }

        private int parseFaces(Row text, int start) {
            toldSets = EMPTY_ALONE;
            int last = NONE;
            int set = 0;
            for (int place = start; place < text.size(); place++) {
                int sign = text.at(place);
                if (isBlank(sign)) {
                    toldSets |= Sets.inside(set);
                    last = NONE;
                    set = 0;
                } else {
                    int point = sign - '0';
                    // A sign that is no digit fails here too: it is below 0 or not below N.
                    if (point <= last || point >= told) {
                        return place;
                    }
                    set |= 1 << point;
                    last = point;
                }
            }
            toldSets |= Sets.inside(set);
            return NONE;
        }

        private static int behindBlanks(Row text, int start) {
            for (int place = start; place < text.size(); place++) {
                if (!isBlank(text.at(place))) {
                    return place;
                }
            }
            return text.size();
        }

        private static boolean isBlank(int sign) {
            return sign == 32 || sign == 10;
        }
    }

    /** Independent sums modulo 2: a row is a family, and two rows are added by the bits that they don't share. */
    private static final class Basis {
        private final long[] rows;
        private final long[] leads;
        private long leading;
        private long rest;
        private int count;

        Basis() {
            rows = new long[SETS];
            leads = new long[SETS];
        }

        /** Only the bits given here decide whether a row is new; the others go along. */
        void clear(long leadingBits) {
            leading = leadingBits;
            rest = 0L;
            count = 0;
        }

        /** Whether the row is no sum of those that were added. */
        boolean add(long row) {
            rest = row;
            for (int i = 0; i < count && i < SETS; i++) {
                if ((rest & leads[i]) != 0L) {
                    rest ^= rows[i];
                }
            }
            long usable = rest & leading;
            if (usable == 0L || count >= SETS) {
                return false;
            }
            rows[count] = rest;
            leads[count] = usable & -usable;
            count++;
            return true;
        }

        /** What remained of the latest row when the earlier ones had been added to it. */
        long remainder() {
            return rest;
        }
    }

    /** The holes of every part, counted anew only when the complex is another one. */
    private static final class Parts {
        private static final int DIMENSIONS = 7;

        private final int[] counts;
        private final int[] borders;
        private final Basis basis;
        private int knownPoints;
        private long knownFamily;

        Parts() {
            counts = new int[SETS * DIMENSIONS];
            borders = new int[DIMENSIONS + 1];
            basis = new Basis();
        }

        void know(int points, long family) {
            if (points == knownPoints && family == knownFamily) {
                return;
            }
            knownPoints = points;
            knownFamily = family;
            for (int part = 0; part < SETS && part < (1 << points); part++) {
                countHoles(part, family & Sets.inside(part));
            }
        }

        static boolean isDimension(int k) {
            return k >= -1 && k <= MOST_DIMENSION;
        }

        /** No holes where there can be no FACES. */
        int holesOf(int part, int k) {
            boolean known = part >= 0 && part < SETS && isDimension(k);
            return known ? counts[part * DIMENSIONS + k + 1] : 0;
        }

        private void countHoles(int part, long inPart) {
            countBorders(part, inPart);
            for (int size = 0; size < DIMENSIONS; size++) {
                int chains = Long.bitCount(inPart & Sets.ofSize(size));
                counts[part * DIMENSIONS + size] = chains - borders[size] - borders[size + 1];
            }
        }

        /** How many independent borders the FACES of each size have. */
        private void countBorders(int part, long inPart) {
            for (int size = 0; size <= DIMENSIONS; size++) {
                borders[size] = 0;
            }
            // One basis serves all sizes, since their borders share no bits.
            basis.clear(-1L);
            for (int set = 1; set <= part && set < SETS; set++) {
                if (Sets.holds(inPart, set) && basis.add(Sets.below(set))) {
                    borders[Integer.bitCount(set)]++;
                }
            }
        }
    }

    /** Products of closed marks; a mark is the family of the FACES on which it is 1. */
    private static final class Products {
        private static final int TOLD = 5;

        private final Parts parts;
        private final Basis basis;
        private final long[] left;
        private final long[] right;
        private final int[] earliest;
        private boolean plain;
        private int knownPoints;
        private long knownFamily;

        Products(Parts holes) {
            parts = holes;
            basis = new Basis();
            left = new long[SETS];
            right = new long[SETS];
            earliest = new int[TOLD];
        }

        void know(int points, long family) {
            if (points == knownPoints && family == knownFamily) {
                return;
            }
            knownPoints = points;
            knownFamily = family;
            parts.know(points, family);
            plain = !seek(points, family);
        }

        boolean arePlain() {
            return plain;
        }

        int told(int what) {
            return plain || what < 0 || what >= TOLD ? NONE : earliest[what];
        }

        private boolean seek(int points, long family) {
            int sets = 1 << points;
            for (int j = 1; j < sets; j++) {
                for (int l = j + 1; l < sets; l++) {
                    if ((j & l) == 0 && seekIn(family, j, l)) {
                        return true;
                    }
                }
            }
            return false;
        }

        private boolean seekIn(long family, int j, int l) {
            for (int a = 0; a <= MOST_DIMENSION; a++) {
                for (int b = 0; b <= MOST_DIMENSION && parts.holesOf(j, a) > 0; b++) {
                    int found = measure(family, j, l, a, b);
                    if (found > 0) {
                        earliest[0] = j;
                        earliest[1] = l;
                        earliest[2] = a;
                        earliest[3] = b;
                        earliest[4] = found;
                        return true;
                    }
                }
            }
            return false;
        }

        /** The RANK; the parts must know this family already. */
        int measure(long family, int j, int l, int a, int b) {
            // Where a part has no holes each closed mark is a RISE, and a product with a RISE is one too.
            if (parts.holesOf(j, a) == 0 || parts.holesOf(l, b) == 0 || parts.holesOf(j | l, a + b + 1) == 0) {
                return 0;
            }
            int lefts = fillClosed(left, family & Sets.inside(j), a);
            int rights = fillClosed(right, family & Sets.inside(l), b);
            long together = family & Sets.inside(j | l);
            long frame = together & Sets.ofSize(a + b + 2);
            addRises(together & Sets.ofSize(a + b + 1), frame);
            int independent = 0;
            for (int x = 0; x < lefts && x < SETS; x++) {
                for (int y = 0; y < rights && y < SETS; y++) {
                    if (basis.add(multiply(frame, left[x], j, right[y], l))) {
                        independent++;
                    }
                }
            }
            return independent;
        }

        /** Puts independent closed marks, of which all others are sums, into the row: how many. */
        private int fillClosed(long[] row, long inPart, int a) {
            long marked = inPart & Sets.ofSize(a + 1);
            long next = inPart & Sets.ofSize(a + 2);
            // A row holds a mark and its RISE side by side; once the RISE is gone, the mark left is closed.
            basis.clear(next);
            int count = 0;
            for (int set = 0; set < SETS; set++) {
                long withRise = (1L << set) | (Sets.above(set) & next);
                if (Sets.holds(marked, set) && !basis.add(withRise) && count < row.length) {
                    row[count] = basis.remainder();
                    count++;
                }
            }
            return count;
        }

        private void addRises(long marked, long frame) {
            basis.clear(-1L);
            for (int set = 0; set < SETS; set++) {
                if (Sets.holds(marked, set)) {
                    basis.add(Sets.above(set) & frame);
                }
            }
        }

        private static long multiply(long frame, long x, int j, long y, int l) {
            long product = 0L;
            for (int set = 0; set < SETS; set++) {
                if (Sets.holds(frame, set) && Sets.holds(x, set & j) && Sets.holds(y, set & l)) {
                    product |= 1L << set;
                }
            }
            return product;
        }
    }

    /** The TURNS, counted anew only when the complex is another one. */
    private static final class Turns {
        private final int[] images;
        private final int[] reached;
        private int knownPoints;
        private long knownFamily;
        private int count;

        Turns() {
            images = new int[SETS];
            reached = new int[MOST_POINTS];
        }

        void know(int points, long family) {
            if (points == knownPoints && family == knownFamily) {
                return;
            }
            knownPoints = points;
            knownFamily = family;
            count = 0;
            for (int point = 0; point < MOST_POINTS; point++) {
                reached[point] = 0;
            }
            place(this, 0, 0);
        }

        int howMany() {
            return count;
        }

        boolean bring(int p, int q) {
            return p >= 0 && p < MOST_POINTS && q >= 0 && q < MOST_POINTS && Sets.hasPoint(reached[p], q);
        }

        int classes() {
            int found = 0;
            for (int point = 0; point < knownPoints && point < MOST_POINTS; point++) {
                // A class is counted at its least point.
                if ((reached[point] & ((1 << point) - 1)) == 0) {
                    found++;
                }
            }
            return found;
        }

        /** Goes through all places for the point and those behind it; at most seven levels deep. */
        private static void place(Turns turns, int point, int used) {
            if (point >= turns.knownPoints || point >= MOST_POINTS) {
                turns.tally();
                return;
            }
            for (int image = 0; image < turns.knownPoints; image++) {
                if (!Sets.hasPoint(used, image) && turns.fits(point, image)) {
                    place(turns, point + 1, used | (1 << image));
                }
            }
        }

        /** Whether all sets of which the point is the highest keep being a FACE, or none. */
        private boolean fits(int point, int image) {
            int highest = 1 << point;
            for (int lower = 0; lower < highest && lower + highest < SETS; lower++) {
                int moved = images[lower] | (1 << image);
                if (Sets.holds(knownFamily, lower + highest) != Sets.holds(knownFamily, moved)) {
                    return false;
                }
                images[lower + highest] = moved;
            }
            return true;
        }

        private void tally() {
            count++;
            for (int point = 0; point < knownPoints && point < MOST_POINTS; point++) {
                reached[point] |= images[1 << point];
            }
        }
    }
}
