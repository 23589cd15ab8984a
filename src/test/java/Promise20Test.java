/** Promise 20: read. */
public final class Promise20Test {
    private static final int NONE = HoleHouse.NONE;
    private static final Check check = new Check("Promise 20");

    public static void main(String[] args) {
        isTheComplex();
        eachSetByItself();
        emptyThen();
        ofTwoHundredBytes();
        itStays();
        emptyThenToo();
        check.finish();
    }

    private static void isTheComplex() {
        check.sentence("The TAPE, empty then, is the COMPLEX: how many FACES it has;");
        HoleHouse x = Complexes.built(Complexes.full(6));
        String[] texts = {"1:", "1: 0", "6: 012345", "3: 01 12", "2: 01 0", "5: 4", "6:", Complexes.SQUARE,
            Complexes.OCTAHEDRON};
        for (String text : texts) {
            Tapes.tell(x, text);
            check.due("read() of " + text, x.read(), Long.bitCount(Complexes.family(text)));
            check.complex("read() of " + text, x, text);
            check.due("fault()", x.fault(), NONE);
        }
    }

    private static void eachSetByItself() {
        for (int n = 1; n <= 6; n++) {
            for (int set = 1; set < 1 << n; set++) {
                String text = n + ": " + Complexes.digits(set);
                HoleHouse x = new HoleHouse();
                Tapes.tell(x, text);
                check.due("read() of " + text, x.read(), 1 << Integer.bitCount(set));
                check.complex("read() of " + text, x, text);
            }
        }
    }

    private static void emptyThen() {
        HoleHouse x = new HoleHouse();
        Tapes.tell(x, "3: 01");
        x.read();
        check.due("end(1)", x.end(1), false);
        check.due("read() of an empty TAPE", x.read(), NONE);
        check.due("fault()", x.fault(), 0);
        check.complex("read() of an empty TAPE", x, "3: 01");
        check.due("feed()", x.feed(0, 0, 0, 0, 0), 20);
    }

    private static void ofTwoHundredBytes() {
        StringBuilder text = new StringBuilder("6:");
        while (text.length() < 197) {
            text.append(" ");
        }
        text.append("135");
        HoleHouse x = new HoleHouse();
        check.due("tell", Tapes.tell(x, text.toString()), true);
        check.due("read() with a FACE at the end of 200", x.read(), 8);
        check.complex("read()", x, "6: 135");
        text.setCharAt(199, '6');
        Tapes.tell(x, text.toString());
        check.due("read() with a fault at the end of 200", x.read(), NONE);
        check.due("fault()", x.fault(), 199);
    }

    private static void itStays() {
        check.sentence("NONE: a FAULT (it stays).");
        for (String text : new String[] {"", "6", "6 012", "0:", "7:", "5: 012 5", "6: 012 33", "6: 012 x", "6: 012 :"}) {
            HoleHouse x = Complexes.built(Complexes.SQUARE);
            Tapes.tell(x, text);
            check.due("read() of " + text, x.read(), NONE);
            check.complex("read() of " + text, x, Complexes.SQUARE);
            check.due("undo() of face(), not of what was refused", x.undo(), true);
            check.complex("undo()", x, "4: 01 12 03");
        }
    }

    /** The shared runs show it: behind a fault feed() starts anew. */
    private static void emptyThenToo() {
        HoleHouse x = new HoleHouse();
        Tapes.tell(x, "6: 012 5 7");
        check.due("read()", x.read(), NONE);
        check.due("end(1)", x.end(1), false);
        check.due("feed()", x.feed(0x363A3020, 0x20202020, 0x20202020, 0x20202020, 0x20202020), 20);
        check.due("read()", x.read(), 2);
    }
}
