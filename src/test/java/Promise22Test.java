/** Promise 22: write. */
public final class Promise22Test {
    private static final Check check = new Check("Promise 22");

    public static void main(String[] args) {
        howManyBytes();
        shortestAndLongest();
        outHasThem();
        nothingElseIsDone();
        check.finish();
    }

    private static void howManyBytes() {
        check.sentence("The COMPLEX is WRITTEN: how many bytes;");
        check.written("3: 2 0 1", "3: 0 1 2");
        check.written("6: 45 0123 0", "6: 0123 45");
        check.written("4: 3 012 01", "4: 012 3");
        check.written("5: 01 12 23 34 04", Complexes.PENTAGON);
        for (String text : new String[] {"2: 0", "2: 1", Complexes.SQUARE, Complexes.OCTAHEDRON, Complexes.BIPARTITE,
            Complexes.PLANE, Complexes.HOLLOW}) {
            check.written(text, text);
        }
    }

    private static void shortestAndLongest() {
        for (int n = 1; n <= 6; n++) {
            check.written(Complexes.empty(n), n + ":");
            check.written(Complexes.full(n), n + ": " + "012345".substring(0, n));
            check.written(Complexes.hollow(n), Complexes.hollow(n));
        }
        HoleHouse longest = Complexes.built(Complexes.skeleton(6, 3));
        check.due("write() of twenty FACES", longest.write(), 82);
        check.due("out(81)", longest.out(81), '5');
        check.due("out(82)", longest.out(82), HoleHouse.NONE);
        check.written(Complexes.skeleton(6, 3), Complexes.skeleton(6, 3));
        check.written(Complexes.skeleton(6, 4), Complexes.skeleton(6, 4));
    }

    private static void outHasThem() {
        check.sentence("OUT has them.");
        HoleHouse x = Complexes.built("6: 012 345");
        check.due("write()", x.write(), 10);
        check.due("out(9)", x.out(9), '5');
        x.points(3);
        check.due("out(9) ahead of the next write()", x.out(9), '5');
        check.due("write() of a shorter one", x.write(), 2);
        check.due("out(0)", x.out(0), '3');
        check.due("out(1)", x.out(1), ':');
        check.due("out(2): nothing is left of the longer one", x.out(2), HoleHouse.NONE);
        check.due("write() again", x.write(), 2);
        check.due("out(2)", x.out(2), HoleHouse.NONE);
        x.undo();
        check.due("write() of the longer one", x.write(), 10);
        check.due("out(2)", x.out(2), ' ');
    }

    private static void nothingElseIsDone() {
        HoleHouse x = new HoleHouse();
        Tapes.tell(x, "3: 02");
        x.face(3);
        x.write();
        check.complex("write()", x, "4: 01");
        check.due("read() of the TAPE as it was", x.read(), 4);
        x.write();
        check.due("undo() of read()", x.undo(), true);
        check.due("undo() of face()", x.undo(), true);
        check.due("undo(): write() is no move", x.undo(), false);
    }
}
