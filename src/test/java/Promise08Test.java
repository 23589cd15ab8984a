/** Promise 8: look. */
public final class Promise08Test {
    private static final int NONE = HoleHouse.NONE;
    /** No order of its points but the one that leaves all where they are. */
    private static final String UNTURNED = "6: 01 12 23 34 15 25";
    private static final Check check = new Check("Promise 8");

    public static void main(String[] args) {
        howManyPoints();
        howManyFaces();
        greatestDimension();
        howManyMissing();
        flag();
        plain();
        turns();
        classes();
        anotherWhat();
        ofTheComplexAsItIs();
        check.finish();
    }

    private static void look(String text, int what, int want) {
        check.due(text + " look(" + what + ")", Complexes.built(text).look(what), want);
    }

    private static void howManyPoints() {
        check.sentence("What 0 N,");
        for (int n = 1; n <= 6; n++) {
            look(Complexes.empty(n), 0, n);
            look(Complexes.full(n), 0, n);
        }
        HoleHouse x = Complexes.built(Complexes.full(6));
        x.link(3);
        check.due("look(0) behind link()", x.look(0), 4);
    }

    private static void howManyFaces() {
        check.sentence("1 how many FACES (the empty one, too),");
        for (int n = 1; n <= 6; n++) {
            look(Complexes.empty(n), 1, 1);
            look(Complexes.full(n), 1, 1 << n);
            look(Complexes.hollow(n), 1, (1 << n) - 1);
            look(Complexes.skeleton(n, 1), 1, n + 1);
        }
        look(Complexes.PENTAGON, 1, 11);
        look("6: 012 23 4", 1, 11);
    }

    private static void greatestDimension() {
        check.sentence("2 the greatest dimension (NONE: the empty one),");
        for (int n = 1; n <= 6; n++) {
            look(Complexes.empty(n), 2, NONE);
            for (int size = 1; size <= n; size++) {
                look(Complexes.skeleton(n, size), 2, size - 1);
            }
        }
        look("6: 0 1 2345", 2, 3);
        look("6: 5", 2, 0);
    }

    private static void howManyMissing() {
        check.sentence("3 how many are MISSING,");
        for (int n = 1; n <= 6; n++) {
            look(Complexes.full(n), 3, 0);
            look(Complexes.empty(n), 3, n);
            look(Complexes.hollow(n), 3, 1);
        }
        look(Complexes.skeleton(6, 1), 3, 15);
        look(Complexes.skeleton(6, 2), 3, 20);
        look(Complexes.skeleton(6, 3), 3, 15);
        look(Complexes.skeleton(6, 4), 3, 6);
        look("6: 012 23 4", 3, 7);
        look("2: 0", 3, 1);
    }

    private static void flag() {
        check.sentence("4 1 if it is FLAG, else 0,");
        for (int n = 1; n <= 6; n++) {
            look(Complexes.full(n), 4, 1);
            look(Complexes.empty(n), 4, 0);
            look(Complexes.hollow(n), 4, n == 2 ? 1 : 0);
            look(Complexes.skeleton(n, 1), 4, 1);
        }
        look(Complexes.SQUARE, 4, 1);
        look(Complexes.OCTAHEDRON, 4, 1);
        look("4: 01 12 02 3", 4, 0);
        look("4: 01 12", 4, 0);
    }

    private static void plain() {
        check.sentence("5 1 if it is PLAIN, else 0,");
        for (int n = 1; n <= 6; n++) {
            look(Complexes.full(n), 5, 1);
            look(Complexes.empty(n), 5, 1);
            look(Complexes.hollow(n), 5, 1);
        }
        look(Complexes.SQUARE, 5, 0);
        look(Complexes.PENTAGON, 5, 0);
        look(Complexes.OCTAHEDRON, 5, 0);
        look("4: 01 12 23", 5, 1);
    }

    private static void turns() {
        check.sentence("6 TURNS,");
        int orders = 1;
        for (int n = 1; n <= 6; n++) {
            orders *= n;
            look(Complexes.empty(n), 6, orders);
            look(Complexes.full(n), 6, orders);
            look(Complexes.hollow(n), 6, orders);
        }
        look(UNTURNED, 6, 1);
        look(Complexes.SQUARE, 6, 8);
        look(Complexes.PENTAGON, 6, 10);
        look(Complexes.OCTAHEDRON, 6, 48);
        look(Complexes.BIPARTITE, 6, 72);
        look(Complexes.PLANE, 6, 60);
        look("6: 012 23 4", 6, 2);
    }

    private static void classes() {
        check.sentence("7 how many classes of ALIKE points.");
        for (int n = 1; n <= 6; n++) {
            look(Complexes.empty(n), 7, 1);
            look(Complexes.full(n), 7, 1);
        }
        look(UNTURNED, 7, 6);
        look(Complexes.PENTAGON, 7, 1);
        look("6: 012 23 4", 7, 5);
        look("6: 5", 7, 2);
        look("6: 0", 7, 2);
        look("5: 01 12 23 34", 7, 3);
    }

    private static void anotherWhat() {
        check.sentence("NONE - 1 for another what.");
        HoleHouse x = Complexes.built(Complexes.SQUARE);
        for (int what : new int[] {-1, 8, 9, 16, 64}) {
            check.due("look(" + what + ")", x.look(what), NONE - 1);
        }
        for (int what : Complexes.FAR) {
            check.due("look(" + what + ")", x.look(what), NONE - 1);
        }
    }

    /** What was counted for one complex must not be told of the next one. */
    private static void ofTheComplexAsItIs() {
        HoleHouse x = Complexes.built(Complexes.SQUARE);
        lookAll("square", x, new int[] {4, 9, 1, 2, 1, 0, 8, 1});
        x.cut(9);
        lookAll("path", x, new int[] {4, 8, 1, 3, 1, 1, 2, 2});
        x.undo();
        lookAll("square again", x, new int[] {4, 9, 1, 2, 1, 0, 8, 1});
        x.link(1);
        lookAll("link", x, new int[] {3, 3, 0, 2, 0, 1, 2, 2});
        x.points(5);
        lookAll("five points", x, new int[] {5, 1, -1, 5, 0, 1, 120, 1});
        x.points(4);
        lookAll("four points", x, new int[] {4, 1, -1, 4, 0, 1, 24, 1});
    }

    private static void lookAll(String when, HoleHouse x, int[] want) {
        for (int what = 0; what < want.length; what++) {
            check.due(when + " look(" + what + ")", x.look(what), want[what]);
        }
    }
}
