/** Promise 24: take. */
public final class Promise24Test {
    private static final Check check = new Check("Promise 24");

    public static void main(String[] args) {
        becomesTheTape();
        whatTheTapeHadGoes();
        nothingIsWritten();
        outStays();
        backAndForth();
        check.finish();
    }

    private static void becomesTheTape() {
        check.sentence("OUT becomes the TAPE: how many bytes.");
        for (String text : new String[] {"1:", "3: 12", Complexes.SQUARE, Complexes.skeleton(6, 3)}) {
            HoleHouse x = Complexes.built(text);
            int length = x.write();
            check.due(text + " take()", x.take(), length);
            check.due(text + " end() of one more", x.end(length + 1), false);
            check.due(text + " end() of all", x.end(length), true);
            x.points(4);
            check.due(text + " read()", x.read(), Long.bitCount(Complexes.family(text)));
            check.complex(text + " read()", x, text);
        }
    }

    private static void whatTheTapeHadGoes() {
        HoleHouse x = Complexes.built("5: 01 34");
        x.write();
        for (int i = 0; i < 10; i++) {
            x.feed(-1, -1, -1, -1, -1);
        }
        check.due("take() over a full TAPE", x.take(), 8);
        check.due("end(9)", x.end(9), false);
        check.due("read()", x.read(), 7);
        Tapes.tell(x, "x");
        check.due("take() over a shorter TAPE", x.take(), 8);
        check.due("feed() behind it", x.feed(0x20313220, 0x20202020, 0x20202020, 0x20202020, 0x20202020), 28);
        check.due("read()", x.read(), 9);
        check.complex("read()", x, "5: 01 34 12");
    }

    private static void nothingIsWritten() {
        HoleHouse x = new HoleHouse();
        check.due("take() ahead of write()", x.take(), 0);
        Tapes.tell(x, "3: 01");
        check.due("take() of no bytes over a TAPE", x.take(), 0);
        check.due("end(1)", x.end(1), false);
        check.due("read()", x.read(), HoleHouse.NONE);
        check.due("fault()", x.fault(), 0);
    }

    private static void outStays() {
        HoleHouse x = Complexes.built("3: 12");
        x.write();
        x.take();
        check.due("out(0)", x.out(0), '3');
        check.due("out(4)", x.out(4), '2');
        check.due("take() again", x.take(), 5);
        x.end(2);
        check.due("out(4) when the TAPE is shorter", x.out(4), '2');
        x.feed(-1, -1, -1, -1, -1);
        check.due("out(2) when the TAPE is another", x.out(2), ' ');
        x.take();
        x.points(6);
        x.write();
        check.due("read(): the TAPE stays when OUT is another", x.read(), 4);
        check.due("out(0)", x.out(0), '6');
    }

    private static void backAndForth() {
        String[] texts = {"1:", "1: 0", "6:", Complexes.PENTAGON, Complexes.OCTAHEDRON, Complexes.PLANE, Complexes.HOLLOW};
        for (String text : texts) {
            HoleHouse x = Complexes.built(text);
            int bytes = x.write();
            check.due(text + " take()", x.take(), bytes);
            check.hold(text + " read()", x.read() > 0);
            check.due(text + " fault()", x.fault(), HoleHouse.NONE);
            check.complex(text + " back", x, text);
            check.due(text + " write()", x.write(), bytes);
        }
    }
}
