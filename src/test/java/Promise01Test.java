/** Promise 1: a new object. */
public final class Promise01Test {
    private static final int NONE = HoleHouse.NONE;
    private static final Check check = new Check("Promise 1");

    public static void main(String[] args) {
        fourPoints();
        theEmptyFaceAlone();
        nothingTakenBackToldOrWritten();
        eachObjectByItself();
        check.finish();
    }

    private static void fourPoints() {
        check.sentence("Four points");
        HoleHouse x = new HoleHouse();
        check.due("look(0)", x.look(0), 4);
        check.due("has(15)", x.has(15), 0);
        check.due("has(16)", x.has(16), NONE);
        check.due("alike(3, 3)", x.alike(3, 3), 1);
        check.due("alike(3, 4)", x.alike(3, 4), NONE);
        check.due("face(15)", x.face(15), 15);
        check.due("face(16)", x.face(16), NONE);
    }

    private static void theEmptyFaceAlone() {
        check.sentence("the empty FACE alone.");
        HoleHouse x = new HoleHouse();
        check.everySet("new", x, "4:");
        check.due("look(1)", x.look(1), 1);
        check.due("look(2)", x.look(2), NONE);
        check.due("look(3)", x.look(3), 4);
    }

    private static void nothingTakenBackToldOrWritten() {
        HoleHouse x = new HoleHouse();
        check.due("undo()", x.undo(), false);
        check.due("fault()", x.fault(), NONE);
        check.due("out(0)", x.out(0), NONE);
        check.due("end(1)", x.end(1), false);
        check.due("take()", x.take(), 0);
        check.complex("still new", x, "4:");
    }

    private static void eachObjectByItself() {
        HoleHouse one = new HoleHouse();
        HoleHouse other = new HoleHouse();
        one.points(6);
        one.face(63);
        one.write();
        one.take();
        one.read();
        check.complex("the other", other, "4:");
        check.due("undo() of the other", other.undo(), false);
        check.due("out(0) of the other", other.out(0), NONE);
        check.complex("a later one", new HoleHouse(), "4:");
    }
}
