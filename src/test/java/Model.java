import java.util.ArrayList;
import java.util.HashSet;
import java.util.List;
import java.util.Set;
import java.util.TreeSet;
import java.util.regex.Matcher;
import java.util.regex.Pattern;

/**
 * The document once more, word by word and slowly: sets of sets instead of bits in a number, every mark and every
 * order gone through, texts told by a pattern. It shares no code with HoleHouse.
 */
final class Model {
    static final int NONE = -1;

    private int n = 4;
    private Set<Integer> faces = new TreeSet<>(List.of(0));
    private final List<Integer> oldN = new ArrayList<>();
    private final List<Set<Integer>> oldFaces = new ArrayList<>();
    private String tape = "";
    private String out = "";
    private int fault = NONE;
    private int[] known;

    private void change(int newN, Set<Integer> newFaces) {
        oldN.add(n);
        oldFaces.add(faces);
        if (oldN.size() > 8) {
            oldN.remove(0);
            oldFaces.remove(0);
        }
        n = newN;
        faces = newFaces;
        known = null;
    }

    private boolean isSet(int set) {
        return set >= 0 && set < Math.pow(2, n);
    }

    private static boolean within(int small, int large) {
        return points(large).containsAll(points(small));
    }

    private static final List<List<Integer>> POINTS = new ArrayList<>();

    /** The points of the set, the lowest first; kept, since the model asks for nothing as often. */
    private static List<Integer> points(int set) {
        while (POINTS.size() <= set) {
            List<Integer> found = new ArrayList<>();
            for (int p = 0, rest = POINTS.size(); rest > 0; p++, rest /= 2) {
                if (rest % 2 == 1) {
                    found.add(p);
                }
            }
            POINTS.add(found);
        }
        return POINTS.get(set);
    }

    boolean points_(int count) {
        if (count < 1 || count > 6) {
            return false;
        }
        change(count, new TreeSet<>(List.of(0)));
        return true;
    }

    int face(int set) {
        if (!isSet(set)) {
            return NONE;
        }
        Set<Integer> more = new TreeSet<>(faces);
        for (int s = 0; s < 64; s++) {
            if (within(s, set)) {
                more.add(s);
            }
        }
        int came = more.size() - faces.size();
        change(n, more);
        return came;
    }

    int cut(int set) {
        if (!faces.contains(set) || set == 0) {
            return NONE;
        }
        Set<Integer> less = new TreeSet<>();
        for (int f : faces) {
            if (!within(set, f)) {
                less.add(f);
            }
        }
        int gone = faces.size() - less.size();
        change(n, less);
        return gone;
    }

    int link(int set) {
        if (!faces.contains(set) || set == 0 || points(set).size() == n) {
            return NONE;
        }
        List<Integer> others = new ArrayList<>();
        for (int p = 0; p < n; p++) {
            if (!points(set).contains(p)) {
                others.add(p);
            }
        }
        Set<Integer> linked = new TreeSet<>();
        for (int f : faces) {
            if (within(set, f)) {
                int renamed = 0;
                for (int p : points(f)) {
                    if (others.contains(p)) {
                        renamed += (int) Math.pow(2, others.indexOf(p));
                    }
                }
                linked.add(renamed);
            }
        }
        change(others.size(), linked);
        return others.size();
    }

    boolean dual() {
        int all = (int) Math.pow(2, n) - 1;
        Set<Integer> turned = new TreeSet<>();
        for (int s = 0; s <= all; s++) {
            if (!faces.contains(all - s)) {
                turned.add(s);
            }
        }
        if (turned.isEmpty()) {
            return false;
        }
        change(n, turned);
        return true;
    }

    boolean undo() {
        if (oldN.isEmpty()) {
            return false;
        }
        n = oldN.remove(oldN.size() - 1);
        faces = oldFaces.remove(oldFaces.size() - 1);
        known = null;
        return true;
    }

    private List<Integer> missingOnes() {
        List<Integer> found = new ArrayList<>();
        for (int s = 0; isSet(s); s++) {
            boolean all = !faces.contains(s);
            for (int t = 0; t < s && all; t++) {
                all = !within(t, s) || faces.contains(t);
            }
            if (all) {
                found.add(s);
            }
        }
        return found;
    }

    int look(int what) {
        int greatest = -1;
        boolean flag = true;
        for (int f : faces) {
            greatest = Math.max(greatest, points(f).size() - 1);
        }
        for (int s : missingOnes()) {
            flag &= points(s).size() == 2;
        }
        switch (what) {
            case 0: return n;
            case 1: return faces.size();
            case 2: return greatest;
            case 3: return missingOnes().size();
            case 4: return flag ? 1 : 0;
            case 5: return first(0) == NONE ? 1 : 0;
            case 6: return turns().size();
            case 7: return classes();
            default: return -2;
        }
    }

    private int classes() {
        Set<Set<Integer>> all = new HashSet<>();
        for (int p = 0; p < n; p++) {
            Set<Integer> mine = new TreeSet<>();
            for (int q = 0; q < n; q++) {
                if (alike(p, q) == 1) {
                    mine.add(q);
                }
            }
            all.add(mine);
        }
        return all.size();
    }

    private List<int[]> turns() {
        List<int[]> found = new ArrayList<>();
        for (int code = 0; code < Math.pow(n, n); code++) {
            int[] order = new int[n];
            Set<Integer> used = new TreeSet<>();
            for (int p = 0, rest = code; p < n; p++, rest /= n) {
                order[p] = rest % n;
                used.add(order[p]);
            }
            if (used.size() == n && keeps(order)) {
                found.add(order);
            }
        }
        return found;
    }

    private boolean keeps(int[] order) {
        for (int f : faces) {
            int moved = 0;
            for (int p : points(f)) {
                moved += (int) Math.pow(2, order[p]);
            }
            if (!faces.contains(moved)) {
                return false;
            }
        }
        return true;
    }

    int alike(int p, int q) {
        if (p < 0 || p >= n || q < 0 || q >= n) {
            return NONE;
        }
        for (int[] order : turns()) {
            if (order[p] == q) {
                return 1;
            }
        }
        return 0;
    }

    int has(int set) {
        return !isSet(set) ? NONE : faces.contains(set) ? 1 : 0;
    }

    int faces(int k) {
        return k < -1 || k > 5 ? NONE : facesOf((int) Math.pow(2, n) - 1, k).size();
    }

    int missing(int i) {
        List<Integer> found = missingOnes();
        return i < 0 || i >= found.size() ? NONE : found.get(i);
    }

    /** The FACES of dimension k of the PART. */
    private List<Integer> facesOf(int part, int k) {
        List<Integer> found = new ArrayList<>();
        for (int f : faces) {
            if (within(f, part) && points(f).size() == k + 1) {
                found.add(f);
            }
        }
        return found;
    }

    private static boolean borders(int small, int large) {
        return within(small, large) && points(small).size() + 1 == points(large).size();
    }

    private int borderRank(int part, int k) {
        List<boolean[]> rows = new ArrayList<>();
        List<Integer> lower = facesOf(part, k - 1);
        for (int f : facesOf(part, k)) {
            boolean[] row = new boolean[lower.size()];
            for (int i = 0; i < row.length; i++) {
                row[i] = borders(lower.get(i), f);
            }
            rows.add(row);
        }
        return dimension(rows);
    }

    /** Column by column, the row that has it is added to all others that do. */
    private static int dimension(List<boolean[]> given) {
        List<boolean[]> rows = new ArrayList<>();
        for (boolean[] row : given) {
            rows.add(row.clone());
        }
        int width = rows.isEmpty() ? 0 : rows.get(0).length;
        int done = 0;
        for (int column = 0; column < width; column++) {
            int pivot = done;
            while (pivot < rows.size() && !rows.get(pivot)[column]) {
                pivot++;
            }
            if (pivot == rows.size()) {
                continue;
            }
            boolean[] lead = rows.remove(pivot);
            rows.add(done, lead);
            for (int r = 0; r < rows.size(); r++) {
                if (r != done && rows.get(r)[column]) {
                    for (int c = 0; c < width; c++) {
                        rows.get(r)[c] ^= lead[c];
                    }
                }
            }
            done++;
        }
        return done;
    }

    private int holesAnyK(int part, int k) {
        return facesOf(part, k).size() - borderRank(part, k) - borderRank(part, k + 1);
    }

    int holes(int part, int k) {
        return !isSet(part) || k < -1 || k > 5 ? NONE : holesAnyK(part, k);
    }

    int space(int l, int what) {
        if (l < 0 || l > 12 || what != 0 && what != 1) {
            return NONE;
        }
        int sum = 0;
        for (int part = 0; isSet(part); part++) {
            sum += holesAnyK(part, what == 0 ? l - points(part).size() - 1 : l - 1);
        }
        return sum;
    }

    int tower(int i, int j) {
        if (i < 0 || i > 6 || j < 0 || j > 6) {
            return NONE;
        }
        int sum = 0;
        for (int part = 0; isSet(part); part++) {
            sum += points(part).size() == j ? holesAnyK(part, j - i - 1) : 0;
        }
        return sum;
    }

    int rank(int j, int l, int a, int b) {
        boolean sets = isSet(j) && isSet(l) && j > 0 && l > 0;
        if (!sets || a < 0 || a > 5 || b < 0 || b > 5) {
            return NONE;
        }
        for (int p : points(j)) {
            if (points(l).contains(p)) {
                return NONE;
            }
        }
        int both = j + l;
        List<Integer> target = facesOf(both, a + b + 1);
        if (target.isEmpty()) {
            return 0;
        }
        List<boolean[]> rises = new ArrayList<>();
        for (int g : facesOf(both, a + b)) {
            boolean[] rise = new boolean[target.size()];
            for (int i = 0; i < rise.length; i++) {
                rise[i] = borders(g, target.get(i));
            }
            rises.add(rise);
        }
        List<boolean[]> all = new ArrayList<>(rises);
        List<Set<Integer>> ys = closed(l, b);
        for (Set<Integer> x : closed(j, a)) {
            for (Set<Integer> y : ys) {
                boolean[] product = new boolean[target.size()];
                for (int i = 0; i < product.length; i++) {
                    product[i] = x.contains(common(target.get(i), j)) && y.contains(common(target.get(i), l));
                }
                all.add(product);
            }
        }
        return dimension(all) - dimension(rises);
    }

    private static int common(int s, int t) {
        int both = 0;
        for (int p : points(s)) {
            both += points(t).contains(p) ? (int) Math.pow(2, p) : 0;
        }
        return both;
    }

    /** Every closed mark, each as the set of FACES on which it is 1. */
    private List<Set<Integer>> closed(int part, int a) {
        List<Integer> domain = facesOf(part, a);
        List<Integer> above = facesOf(part, a + 1);
        List<Set<Integer>> found = new ArrayList<>();
        for (int code = 0; code < Math.pow(2, domain.size()); code++) {
            Set<Integer> mark = new HashSet<>();
            for (int i : points(code)) {
                mark.add(domain.get(i));
            }
            boolean isClosed = true;
            for (int f : above) {
                int sum = 0;
                for (int m : mark) {
                    sum += borders(m, f) ? 1 : 0;
                }
                isClosed &= sum % 2 == 0;
            }
            if (isClosed) {
                found.add(mark);
            }
        }
        return found;
    }

    int first(int what) {
        if (known == null) {
            known = seek();
        }
        return known.length == 0 || what < 0 || what > 4 ? NONE : known[what];
    }

    private int[] seek() {
        for (int j = 1; isSet(j); j++) {
            for (int l = j + 1; isSet(l); l++) {
                for (int a = 0; a <= 5; a++) {
                    for (int b = 0; b <= 5; b++) {
                        int rank = rank(j, l, a, b);
                        if (rank > 0) {
                            return new int[] {j, l, a, b, rank};
                        }
                    }
                }
            }
        }
        return new int[0];
    }

    int feed(int[] numbers) {
        if (tape.length() + 20 > 200) {
            return NONE;
        }
        for (int number : numbers) {
            tape += signs(String.format("%08x", number));
        }
        return tape.length();
    }

    private static String signs(String hex) {
        StringBuilder four = new StringBuilder();
        for (int i = 0; i < 8; i += 2) {
            four.append((char) Integer.parseInt(hex.substring(i, i + 2), 16));
        }
        return four.toString();
    }

    boolean end(int count) {
        if (count < 0 || count > tape.length()) {
            return false;
        }
        tape = tape.substring(0, count);
        return true;
    }

    int read() {
        String text = tape;
        tape = "";
        fault = faultIn(text);
        if (fault != NONE) {
            return NONE;
        }
        String[] halves = text.split(":", -1);
        Set<Integer> told = new TreeSet<>(List.of(0));
        for (String word : halves[1].split("[ \n]+")) {
            int set = 0;
            for (char digit : word.toCharArray()) {
                set += (int) Math.pow(2, digit - '0');
            }
            for (int s = 0; s < 64; s++) {
                if (within(s, set)) {
                    told.add(s);
                }
            }
        }
        change(Integer.parseInt(halves[0].trim()), told);
        return faces.size();
    }

    /** The first place behind which no text could go on. */
    private static int faultIn(String text) {
        for (int length = 1; length <= text.length(); length++) {
            Matcher matcher = TEXT.matcher(text.substring(0, length));
            if (!matcher.matches() && !matcher.hitEnd()) {
                return length - 1;
            }
        }
        return TEXT.matcher(text).matches() ? NONE : text.length();
    }

    private static final Pattern TEXT = Pattern.compile(pattern());

    private static String pattern() {
        StringBuilder texts = new StringBuilder("[ \n]*(?:");
        for (int count = 1; count <= 6; count++) {
            StringBuilder words = new StringBuilder();
            for (int set = 1; set < Math.pow(2, count); set++) {
                words.append(set == 1 ? "(?:" : "|");
                for (int p : points(set)) {
                    words.append(p);
                }
            }
            words.append(")");
            texts.append(count == 1 ? "" : "|").append(count).append("[ \n]*:[ \n]*(?:").append(words)
                .append("(?:[ \n]+").append(words).append(")*[ \n]*)?");
        }
        return texts.append(")").toString();
    }

    int fault() {
        return fault;
    }

    int write() {
        StringBuilder text = new StringBuilder().append(n).append(":");
        for (int f : faces) {
            boolean greatest = f != 0;
            for (int g : faces) {
                greatest &= f == g || !within(f, g);
            }
            if (greatest) {
                text.append(" ");
                for (int p : points(f)) {
                    text.append(p);
                }
            }
        }
        out = text.toString();
        return out.length();
    }

    int out(int i) {
        return i < 0 || i >= out.length() ? NONE : out.charAt(i);
    }

    int take() {
        tape = out;
        return tape.length();
    }

    String written() {
        write();
        return out;
    }
}
