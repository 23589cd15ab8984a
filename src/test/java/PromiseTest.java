/** Each promise by itself: ordinary inputs, the edges that the document names, and wrong inputs. */
public final class PromiseTest {
    private static final int NONE = HoleHouse.NONE;
    private static final int[] NO_SETS = {-1, Integer.MIN_VALUE, Integer.MAX_VALUE, 16, 17, 64, 65};

    private static final String SQUARE = "4: 01 12 23 03";
    private static final String PENTAGON = "5: 01 12 23 34 04";
    private static final String OCTAHEDRON = "6: 024 025 034 035 124 125 134 135";
    private static final String BIPARTITE = "6: 03 04 05 13 14 15 23 24 25";
    private static final String HOLLOW = "6: 01234 01235 01245 01345 02345 12345";

    private static final Check check = new Check();

    public static void main(String[] args) {
        newObject();
        points();
        face();
        cut();
        link();
        dual();
        undo();
        undoOfEveryMove();
        undoLeavesTexts();
        look();
        has();
        faces();
        missing();
        holes();
        space();
        tower();
        rank();
        first();
        alike();
        feed();
        end();
        read();
        fault();
        write();
        out();
        take();
        check.finish();
    }

    private static void newObject() {
        HoleHouse x = new HoleHouse();
        check.due("1: look(0)", x.look(0), 4);
        check.due("1: look(1)", x.look(1), 1);
        check.due("1: has(0)", x.has(0), 1);
        for (int set = 1; set < 16; set++) {
            check.due("1: has(" + set + ")", x.has(set), 0);
        }
        check.due("1: undo()", x.undo(), false);
        check.due("1: fault()", x.fault(), NONE);
        check.due("1: out(0)", x.out(0), NONE);
        check.due("1: end(1)", x.end(1), false);
        check.due("1: take()", x.take(), 0);
        check.due("1: NONE", NONE, -1);
    }

    private static void points() {
        for (int n = 1; n <= 6; n++) {
            HoleHouse x = Tapes.house(SQUARE);
            check.due("2: points(" + n + ")", x.points(n), true);
            check.due("2: look(0)", x.look(0), n);
            check.due("2: look(1)", x.look(1), 1);
        }
        HoleHouse x = Tapes.house(SQUARE);
        for (int n : new int[] {0, 7, -1, Integer.MIN_VALUE, Integer.MAX_VALUE, 32, 33}) {
            check.due("2: points(" + n + ")", x.points(n), false);
            check.due("2: look(0)", x.look(0), 4);
            check.due("2: look(1)", x.look(1), 9);
        }
        check.due("2: undo() of the read", x.undo(), true);
        check.due("2: undo() of no more", x.undo(), false);
    }

    private static void face() {
        HoleHouse x = new HoleHouse();
        check.due("3: face(15)", x.face(15), 15);
        check.due("3: face(15)", x.face(15), 0);
        x.points(6);
        check.due("3: face(56)", x.face(56), 7);
        check.due("3: face(52)", x.face(52), 4);
        check.due("3: face(0)", x.face(0), 0);
        check.due("3: face(63)", x.face(63), 64 - 12);
        x.points(4);
        for (int set : NO_SETS) {
            check.due("3: face(" + set + ")", x.face(set), NONE);
            check.due("3: look(1)", x.look(1), 1);
        }
        x.points(1);
        check.due("3: face(2)", x.face(2), NONE);
        check.due("3: face(1)", x.face(1), 1);
    }

    private static void cut() {
        HoleHouse x = Tapes.house("4: 0123");
        check.due("4: cut(15)", x.cut(15), 1);
        check.due("4: cut(3)", x.cut(3), 3);
        check.due("4: cut(3)", x.cut(3), NONE);
        check.due("4: cut(0)", x.cut(0), NONE);
        for (int set : NO_SETS) {
            check.due("4: cut(" + set + ")", x.cut(set), NONE);
        }
        check.due("4: look(1)", x.look(1), 12);
        check.due("4: cut(8)", x.cut(8), 6);
        check.due("4: text", Tapes.written(x).equals("4: 02 12"), true);
        HoleHouse full = Tapes.house("6: 012345");
        check.due("4: cut(32)", full.cut(32), 32);
        check.due("4: cut(1)", full.cut(1), 16);
    }

    private static void link() {
        HoleHouse x = Tapes.house(OCTAHEDRON);
        check.due("5: link(4)", x.link(4), 5);
        check.due("5: text", Tapes.written(x).equals("5: 03 13 04 14"), true);
        check.due("5: has(4): point 3 was across", x.has(4), 0);
        check.due("5: link(9)", x.link(9), 3);
        check.due("5: text", Tapes.written(x).equals("3:"), true);
        check.due("5: link(1)", x.link(1), NONE);
        check.due("5: link(0)", x.link(0), NONE);
        HoleHouse full = Tapes.house("4: 0123");
        check.due("5: link(15)", full.link(15), NONE);
        for (int set : NO_SETS) {
            check.due("5: link(" + set + ")", full.link(set), NONE);
        }
        check.due("5: look(1)", full.look(1), 16);
        check.due("5: link(5)", full.link(5), 2);
        check.due("5: look(1)", full.look(1), 4);
        HoleHouse one = Tapes.house("1:0");
        check.due("5: link(1)", one.link(1), NONE);
        check.due("5: look(0)", one.look(0), 1);
    }

    private static void dual() {
        HoleHouse x = Tapes.house("6:");
        check.due("6: dual()", x.dual(), true);
        check.due("6: look(1)", x.look(1), 63);
        check.due("6: text", Tapes.written(x).equals(HOLLOW), true);
        check.due("6: dual()", x.dual(), true);
        check.due("6: look(1)", x.look(1), 1);
        HoleHouse square = Tapes.house(SQUARE);
        check.due("6: dual()", square.dual(), true);
        check.due("6: text", Tapes.written(square).equals("4: 02 13"), true);
        HoleHouse ghost = Tapes.house("3: 0 1");
        check.due("6: dual()", ghost.dual(), true);
        check.due("6: text", Tapes.written(ghost).equals("3: 01 2"), true);
        HoleHouse full = Tapes.house("6: 012345");
        check.due("6: dual()", full.dual(), false);
        check.due("6: look(1)", full.look(1), 64);
        check.due("6: undo() of the read", full.undo(), true);
        check.due("6: undo() of no dual", full.undo(), false);
    }

    private static void undo() {
        HoleHouse x = new HoleHouse();
        for (int p = 1; p <= 9; p++) {
            x.points(p % 6 + 1);
        }
        int[] back = {3, 2, 1, 6, 5, 4, 3, 2};
        for (int n : back) {
            check.due("7: undo()", x.undo(), true);
            check.due("7: look(0)", x.look(0), n);
        }
        check.due("7: undo() of the ninth", x.undo(), false);
        check.due("7: look(0)", x.look(0), 2);
        x.face(3);
        check.due("7: undo() of a later one", x.undo(), true);
        check.due("7: undo() of no more", x.undo(), false);
    }

    private static void undoOfEveryMove() {
        HoleHouse x = Tapes.house(SQUARE);
        x.points(2);
        x.undo();
        check.due("7: text behind points()", Tapes.written(x).equals("4: 01 12 03 23"), true);
        x.face(7);
        x.undo();
        check.due("7: look(1) behind face()", x.look(1), 9);
        check.due("7: face(3)", x.face(3), 0);
        check.due("7: undo() of a face() by which none came", x.undo(), true);
        check.due("7: look(1)", x.look(1), 9);
        x.cut(1);
        x.undo();
        check.due("7: look(1) behind cut()", x.look(1), 9);
        x.link(1);
        x.undo();
        check.due("7: look(0) behind link()", x.look(0), 4);
        check.due("7: look(1) behind link()", x.look(1), 9);
        x.dual();
        x.undo();
        check.due("7: look(1) behind dual()", x.look(1), 9);
        failingMoves(x);
        check.due("7: undo() of the read, since what failed does not count", x.undo(), true);
        check.due("7: look(1)", x.look(1), 1);
        check.due("7: undo()", x.undo(), false);
    }

    private static void failingMoves(HoleHouse x) {
        x.points(0);
        x.face(16);
        x.cut(0);
        x.link(0);
        Tapes.tell(x, "x");
        x.read();
    }

    private static void undoLeavesTexts() {
        HoleHouse x = Tapes.house(SQUARE);
        x.write();
        Tapes.tell(x, "7");
        x.read();
        Tapes.tell(x, "2: 0");
        x.undo();
        check.due("7: out(0) behind undo()", x.out(0), '4');
        check.due("7: fault() behind undo()", x.fault(), 0);
        check.due("7: read() behind undo()", x.read(), 2);
    }

    private static void look() {
        HoleHouse x = Tapes.house(PENTAGON);
        int[] want = {5, 11, 1, 5, 1, 0, 10, 1};
        for (int what = 0; what < want.length; what++) {
            check.due("8: pentagon look(" + what + ")", x.look(what), want[what]);
        }
        for (int what : new int[] {-1, 8, -2, Integer.MIN_VALUE, Integer.MAX_VALUE}) {
            check.due("8: look(" + what + ")", x.look(what), -2);
        }
        HoleHouse empty = Tapes.house("6:");
        int[] ofEmpty = {6, 1, -1, 6, 0, 1, 720, 1};
        HoleHouse full = Tapes.house("6: 012345");
        int[] ofFull = {6, 64, 5, 0, 1, 1, 720, 1};
        HoleHouse mixed = Tapes.house("6: 012 23 4");
        int[] ofMixed = {6, 11, 2, 7, 0, 1, 2, 5};
        for (int what = 0; what < 8; what++) {
            check.due("8: empty look(" + what + ")", empty.look(what), ofEmpty[what]);
            check.due("8: full look(" + what + ")", full.look(what), ofFull[what]);
            check.due("8: mixed look(" + what + ")", mixed.look(what), ofMixed[what]);
        }
        check.due("8: octahedron look(6)", Tapes.house(OCTAHEDRON).look(6), 48);
        check.due("8: hollow triangle is not FLAG", Tapes.house("3: 01 12 02").look(4), 0);
    }

    private static void has() {
        HoleHouse x = Tapes.house(SQUARE);
        int[] sets = {0, 1, 2, 4, 8, 3, 6, 12, 9};
        long present = 0;
        for (int set : sets) {
            present |= 1L << set;
        }
        for (int set = 0; set < 16; set++) {
            check.due("9: has(" + set + ")", x.has(set), present >>> set & 1);
        }
        for (int set : NO_SETS) {
            check.due("9: has(" + set + ")", x.has(set), NONE);
        }
    }

    private static void faces() {
        HoleHouse x = Tapes.house("6: 01234 5");
        int[] want = {1, 6, 10, 10, 5, 1, 0};
        for (int k = -1; k <= 5; k++) {
            check.due("10: faces(" + k + ")", x.faces(k), want[k + 1]);
        }
        check.due("10: faces(5)", Tapes.house("6: 012345").faces(5), 1);
        check.due("10: faces(5) of one point", Tapes.house("1: 0").faces(5), 0);
        for (int k : new int[] {-2, 6, Integer.MIN_VALUE, Integer.MAX_VALUE}) {
            check.due("10: faces(" + k + ")", x.faces(k), NONE);
        }
    }

    private static void missing() {
        HoleHouse x = Tapes.house("5: 01 12 02 3");
        int[] want = {7, 9, 10, 12, 16};
        for (int i = 0; i < want.length; i++) {
            check.due("11: missing(" + i + ")", x.missing(i), want[i]);
        }
        for (int i : new int[] {-1, 5, 6, Integer.MIN_VALUE, Integer.MAX_VALUE}) {
            check.due("11: missing(" + i + ")", x.missing(i), NONE);
        }
        check.due("11: missing(0) of a full one", Tapes.house("3: 012").missing(0), NONE);
        check.due("11: missing(0) of a hollow one", Tapes.house(HOLLOW).missing(0), 63);
    }

    private static void holes() {
        HoleHouse x = Tapes.house(HOLLOW);
        for (int k = -1; k <= 5; k++) {
            check.due("12: hollow holes(63, " + k + ")", x.holes(63, k), k == 4 ? 1 : 0);
            check.due("12: hollow holes(31, " + k + ")", x.holes(31, k), 0);
            check.due("12: hollow holes(0, " + k + ")", x.holes(0, k), k == -1 ? 1 : 0);
        }
        HoleHouse ghost = Tapes.house("3: 0");
        check.due("12: ghosts holes(6, -1)", ghost.holes(6, -1), 1);
        check.due("12: ghosts holes(7, -1)", ghost.holes(7, -1), 0);
        check.due("12: ghosts holes(7, 0)", ghost.holes(7, 0), 0);
        HoleHouse graph = Tapes.house(BIPARTITE);
        check.due("12: bipartite holes(63, 1)", graph.holes(63, 1), 4);
        check.due("12: bipartite holes(7, 0)", graph.holes(7, 0), 2);
        for (int set : NO_SETS) {
            check.due("12: holes(" + set + ", 0)", Tapes.house(SQUARE).holes(set, 0), NONE);
        }
        for (int k : new int[] {-2, 6, Integer.MIN_VALUE, Integer.MAX_VALUE}) {
            check.due("12: holes(0, " + k + ")", x.holes(0, k), NONE);
        }
    }

    private static void space() {
        spaces("6:", new int[] {1, 6, 15, 20, 15, 6, 1}, new int[] {64});
        spaces(PENTAGON, new int[] {1, 0, 0, 5, 5, 0, 0, 1}, new int[] {1, 10, 1});
        spaces(OCTAHEDRON, new int[] {1, 0, 0, 3, 0, 0, 3, 0, 0, 1}, new int[] {1, 3, 3, 1});
        spaces(HOLLOW, new int[] {1, 0, 0, 0, 0, 0, 0, 0, 0, 0, 0, 1}, new int[] {1, 0, 0, 0, 0, 1});
        spaces("6: 012345", new int[] {1}, new int[] {1});
        HoleHouse x = Tapes.house(PENTAGON);
        for (int l : new int[] {-1, 13, Integer.MIN_VALUE, Integer.MAX_VALUE}) {
            check.due("13: space(" + l + ", 0)", x.space(l, 0), NONE);
            check.due("13: space(" + l + ", 1)", x.space(l, 1), NONE);
        }
        for (int what : new int[] {-1, 2, Integer.MIN_VALUE, Integer.MAX_VALUE}) {
            check.due("13: space(0, " + what + ")", x.space(0, what), NONE);
        }
    }

    private static void spaces(String text, int[] round, int[] straight) {
        HoleHouse x = Tapes.house(text);
        for (int l = 0; l <= 12; l++) {
            check.due("13: " + text + " space(" + l + ", 0)", x.space(l, 0), l < round.length ? round[l] : 0);
            check.due("13: " + text + " space(" + l + ", 1)", x.space(l, 1), l < straight.length ? straight[l] : 0);
        }
    }

    private static void tower() {
        HoleHouse x = Tapes.house(PENTAGON);
        HoleHouse empty = Tapes.house("6:");
        int[] choose = {1, 6, 15, 20, 15, 6, 1};
        for (int i = 0; i <= 6; i++) {
            for (int j = 0; j <= 6; j++) {
                int want = i == 0 && j == 0 || i == 3 && j == 5 ? 1 : (i == 1 || i == 2) && j == i + 1 ? 5 : 0;
                check.due("14: tower(" + i + ", " + j + ")", x.tower(i, j), want);
                check.due("14: empty tower(" + i + ", " + j + ")", empty.tower(i, j), i == j ? choose[i] : 0);
            }
        }
        check.due("14: hollow tower(1, 6)", Tapes.house(HOLLOW).tower(1, 6), 1);
        for (int wrong : new int[] {-1, 7, Integer.MIN_VALUE, Integer.MAX_VALUE}) {
            check.due("14: tower(" + wrong + ", 0)", x.tower(wrong, 0), NONE);
            check.due("14: tower(0, " + wrong + ")", x.tower(0, wrong), NONE);
        }
    }

    private static void rank() {
        HoleHouse graph = Tapes.house(BIPARTITE);
        check.due("15: bipartite rank(7, 56, 0, 0)", graph.rank(7, 56, 0, 0), 4);
        check.due("15: bipartite rank(56, 3, 0, 0)", graph.rank(56, 3, 0, 0), 2);
        check.due("15: bipartite rank(7, 56, 1, 0)", graph.rank(7, 56, 1, 0), 0);
        HoleHouse ball = Tapes.house(OCTAHEDRON);
        check.due("15: octahedron rank(3, 60, 0, 1)", ball.rank(3, 60, 0, 1), 1);
        check.due("15: octahedron rank(60, 3, 1, 0)", ball.rank(60, 3, 1, 0), 1);
        check.due("15: octahedron rank(60, 3, 0, 1)", ball.rank(60, 3, 0, 1), 0);
        check.due("15: octahedron rank(5, 10, 0, 0)", ball.rank(5, 10, 0, 0), 0);
        check.due("15: pentagon rank(5, 26, 0, 0)", Tapes.house(PENTAGON).rank(5, 26, 0, 0), 1);
        check.due("15: pentagon rank(5, 10, 0, 0)", Tapes.house(PENTAGON).rank(5, 10, 0, 0), 0);
        HoleHouse square = Tapes.house(SQUARE);
        check.due("15: rank(5, 10, 5, 5)", square.rank(5, 10, 5, 5), 0);
        for (int set : NO_SETS) {
            check.due("15: rank(" + set + ", 1, 0, 0)", square.rank(set, 1, 0, 0), NONE);
            check.due("15: rank(1, " + set + ", 0, 0)", square.rank(1, set, 0, 0), NONE);
        }
        check.due("15: rank(0, 1, 0, 0)", square.rank(0, 1, 0, 0), NONE);
        check.due("15: rank(1, 0, 0, 0)", square.rank(1, 0, 0, 0), NONE);
        check.due("15: rank(3, 6, 0, 0)", square.rank(3, 6, 0, 0), NONE);
        for (int wrong : new int[] {-1, 6, Integer.MIN_VALUE, Integer.MAX_VALUE}) {
            check.due("15: rank(5, 10, " + wrong + ", 0)", square.rank(5, 10, wrong, 0), NONE);
            check.due("15: rank(5, 10, 0, " + wrong + ")", square.rank(5, 10, 0, wrong), NONE);
        }
    }

    private static void first() {
        firsts(PENTAGON, new int[] {5, 26, 0, 0, 1});
        firsts(OCTAHEDRON, new int[] {3, 12, 0, 0, 1});
        firsts(BIPARTITE, new int[] {3, 24, 0, 0, 1});
        firsts("5: 013 123 023 014 124 024", new int[] {7, 24, 1, 0, 1});
        firsts("6:", new int[] {NONE, NONE, NONE, NONE, NONE});
        firsts("6: 012345", new int[] {NONE, NONE, NONE, NONE, NONE});
        HoleHouse x = Tapes.house(PENTAGON);
        x.first(0);
        x.dual();
        x.dual();
        x.cut(3);
        check.due("16: first(0) when the ring is cut", x.first(0), NONE);
        x.undo();
        check.due("16: first(0) when the cut is taken back", x.first(0), 5);
    }

    private static void firsts(String text, int[] want) {
        HoleHouse x = Tapes.house(text);
        for (int what = 0; what < want.length; what++) {
            check.due("16: " + text + " first(" + what + ")", x.first(what), want[what]);
        }
        check.due("16: " + text + " look(5)", x.look(5), want[0] == NONE ? 1 : 0);
        for (int what : new int[] {-1, 5, Integer.MIN_VALUE, Integer.MAX_VALUE}) {
            check.due("16: " + text + " first(" + what + ")", x.first(what), NONE);
        }
    }

    private static void alike() {
        HoleHouse x = Tapes.house("5: 012 34");
        for (int p = 0; p < 5; p++) {
            for (int q = 0; q < 5; q++) {
                check.due("17: alike(" + p + ", " + q + ")", x.alike(p, q), p < 3 == q < 3 ? 1 : 0);
            }
        }
        check.due("17: look(7)", x.look(7), 2);
        for (int p : new int[] {-1, 5, 6, 32, Integer.MIN_VALUE, Integer.MAX_VALUE}) {
            check.due("17: alike(" + p + ", 0)", x.alike(p, 0), NONE);
            check.due("17: alike(0, " + p + ")", x.alike(0, p), NONE);
        }
        HoleHouse path = Tapes.house("4: 01 12 23");
        check.due("17: alike(0, 3)", path.alike(0, 3), 1);
        check.due("17: alike(0, 1)", path.alike(0, 1), 0);
    }

    private static void feed() {
        HoleHouse x = new HoleHouse();
        for (int i = 1; i <= 10; i++) {
            check.due("18: feed()", x.feed(0x323A2030, 0x31202020, 0x20202020, 0x20202020, 0x20202020), 20 * i);
        }
        check.due("18: feed() beyond 200", x.feed(0, 0, 0, 0, 0), NONE);
        check.due("18: end(200)", x.end(200), true);
        check.due("18: end(181)", x.end(181), true);
        check.due("18: feed() beyond 200", x.feed(0, 0, 0, 0, 0), NONE);
        check.due("18: end(180)", x.end(180), true);
        check.due("18: feed()", x.feed(0, 0, 0, 0, 0), 200);
        x.end(20);
        check.due("18: read()", x.read(), 4);
        x.feed(0xFFFFFFFF, 0, 0, 0, 0);
        check.due("18: read() of other bytes", x.read(), NONE);
        x.feed(0x20202020, 0x20202020, 0x20202020, 0x20202020, 0x333A3132);
        check.due("18: read() of the last number", x.read(), 4);
        check.due("18: has(6)", x.has(6), 1);
    }

    private static void end() {
        HoleHouse x = new HoleHouse();
        check.due("19: end(0)", x.end(0), true);
        check.due("19: end(1)", x.end(1), false);
        check.due("19: end(-1)", x.end(-1), false);
        x.feed(0x323A2030, 0x31202020, 0, 0, 0);
        check.due("19: end(21)", x.end(21), false);
        check.due("19: end(-1)", x.end(-1), false);
        check.due("19: end(MIN)", x.end(Integer.MIN_VALUE), false);
        check.due("19: end(MAX)", x.end(Integer.MAX_VALUE), false);
        check.due("19: end(20)", x.end(20), true);
        check.due("19: end(4)", x.end(4), true);
        check.due("19: end(5)", x.end(5), false);
        check.due("19: read()", x.read(), 2);
        check.due("19: end(1) behind read()", x.end(1), false);
    }

    private static void read() {
        HoleHouse x = new HoleHouse();
        String[] texts = {"1:", "1:0", "6 : 012345", "\n\n3\n:\n01\n\n12 ", "3:0 0 01 0", " 2: 01 0", "5:4", "2:01\n"};
        int[] counts = {1, 2, 64, 6, 4, 4, 2, 4};
        for (int i = 0; i < texts.length; i++) {
            check.due("20: tell", Tapes.tell(x, texts[i]), true);
            check.due("20: read() of " + texts[i], x.read(), counts[i]);
            check.due("20: look(1)", x.look(1), counts[i]);
            check.due("20: fault()", x.fault(), NONE);
        }
        check.due("20: look(0)", x.look(0), 2);
        check.due("20: the tape is empty", x.feed(0, 0, 0, 0, 0), 20);
        check.due("20: read() of a fault", x.read(), NONE);
        check.due("20: the complex stays", x.look(1), 4);
        check.due("20: the tape is empty then, too", x.feed(0, 0, 0, 0, 0), 20);
    }

    private static void fault() {
        String[] texts = {"", " ", "\n \n", "0:", "7:", ":", "3", "3 ", "3 1", "33:", "3:3", "3: 00", "3: 021", "3: 12 10",
            "3: 0,1", "3:0\t1", "3: 01 :", "3:\r", "a", "3;", "1:01", "6: 0123456", "6: 5 6", "3: 0-1", "3: -", "2::",
            "3:/", "6: 05\n4 6x", "\u00b3:", "3:\u00ff"};
        int[] places = {0, 1, 3, 0, 0, 0, 1, 2, 2, 1, 2, 4, 5, 7,
            4, 3, 6, 2, 0, 1, 3, 9, 5, 4, 3, 2,
            2, 8, 0, 2};
        HoleHouse x = Tapes.house(SQUARE);
        check.due("21: fault()", x.fault(), NONE);
        for (int i = 0; i < texts.length; i++) {
            check.due("21: tell", Tapes.tell(x, texts[i]), true);
            check.due("21: read() of " + texts[i], x.read(), NONE);
            check.due("21: fault() of " + texts[i], x.fault(), places[i]);
            check.due("21: fault() again", x.fault(), places[i]);
            check.due("21: look(1)", x.look(1), 9);
        }
        Tapes.tell(x, "3:");
        check.due("21: read()", x.read(), 1);
        check.due("21: fault() without one", x.fault(), NONE);
    }

    private static void write() {
        String[] texts = {"1:", "6: 012345", "3: 2 0 1", "6: 45 0123 0", "4: 3 012 01", OCTAHEDRON, HOLLOW, BIPARTITE};
        String[] wants = {"1:", "6: 012345", "3: 0 1 2", "6: 0123 45", "4: 012 3",
            "6: 024 124 034 134 025 125 035 135", HOLLOW, "6: 03 13 23 04 14 24 05 15 25"};
        for (int i = 0; i < texts.length; i++) {
            HoleHouse x = Tapes.house(texts[i]);
            check.due("22: write()", x.write(), wants[i].length());
            String got = Tapes.written(x);
            check.hold("22: " + texts[i] + " is written " + wants[i] + ", not " + got, got.equals(wants[i]));
        }
        HoleHouse longest = Tapes.house("6:");
        for (int set = 0; set < 64; set++) {
            if (Integer.bitCount(set) == 3) {
                longest.face(set);
            }
        }
        check.due("22: write() of twenty FACES", longest.write(), 82);
        check.due("22: out(81)", longest.out(81), '5');
    }

    private static void out() {
        HoleHouse x = Tapes.house("3: 12");
        check.due("23: out(0) ahead of write()", x.out(0), NONE);
        check.due("23: write()", x.write(), 5);
        String want = "3: 12";
        for (int i = 0; i < want.length(); i++) {
            check.due("23: out(" + i + ")", x.out(i), want.charAt(i));
        }
        for (int i : new int[] {-1, 5, 200, Integer.MIN_VALUE, Integer.MAX_VALUE}) {
            check.due("23: out(" + i + ")", x.out(i), NONE);
        }
        x.points(2);
        check.due("23: out(0) stays", x.out(0), '3');
        x.write();
        check.due("23: out(0)", x.out(0), '2');
        check.due("23: out(2)", x.out(2), NONE);
    }

    private static void take() {
        HoleHouse x = Tapes.house(PENTAGON);
        x.write();
        Tapes.tell(x, "4: 0123 this goes when OUT comes");
        check.due("24: take()", x.take(), 17);
        check.due("24: out(0) stays", x.out(0), '5');
        check.due("24: end(18)", x.end(18), false);
        x.points(1);
        check.due("24: read()", x.read(), 11);
        check.due("24: take() again", x.take(), 17);
        check.due("24: feed() behind it", x.feed(0x20202020, 0x20303132, 0x20202020, 0x20202020, 0x20202020), 37);
        check.due("24: read()", x.read(), 13);
    }
}
