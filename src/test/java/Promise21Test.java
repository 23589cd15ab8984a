/** Promise 21: fault. */
public final class Promise21Test {
    private static final int NONE = HoleHouse.NONE;
    private static final Check check = new Check("Promise 21");

    public static void main(String[] args) {
        thePlace();
        theLatest();
        itStaysUntilTheNextRead();
        withoutOne();
        check.finish();
    }

    private static void thePlace() {
        check.sentence("The place of the latest read()'s FAULT;");
        String[] texts = {"", " ", "\n \n", "0:", "7:", ":", "3", "3 ", "3 1", "33:", "3:3", "3: 00", "3: 021", "3: 12 10",
            "3: 0,1", "3:0\t1", "3: 01 :", "3:\r", "a", "3;", "1:01", "6: 0123456", "6: 5 6", "3: 0-1", "3: -", "2::",
            "3:/", "6: 05\n4 6x", "\u00b3:", "3:\u00ff"};
        int[] places = {0, 1, 3, 0, 0, 0, 1, 2, 2, 1, 2, 4, 5, 7,
            4, 3, 6, 2, 0, 1, 3, 9, 5, 4, 3, 2,
            2, 8, 0, 2};
        HoleHouse x = Complexes.built(Complexes.SQUARE);
        for (int i = 0; i < texts.length; i++) {
            Tapes.tell(x, texts[i]);
            check.due("read() of " + texts[i], x.read(), NONE);
            check.due("fault() of " + texts[i], x.fault(), places[i]);
            check.due("fault() again", x.fault(), places[i]);
        }
    }

    private static void theLatest() {
        HoleHouse x = new HoleHouse();
        for (int place : new int[] {5, 2, 9, 0, 200}) {
            Tapes.tell(x, " ".repeat(place) + (place == 200 ? "" : "x 3: 0"));
            x.read();
            check.due("fault()", x.fault(), place);
        }
        x.read();
        check.due("fault() of an empty TAPE", x.fault(), 0);
    }

    private static void itStaysUntilTheNextRead() {
        HoleHouse x = new HoleHouse();
        Tapes.tell(x, "3: 3");
        x.read();
        Tapes.tell(x, "2: 01");
        x.points(5);
        x.face(3);
        x.write();
        check.due("fault()", x.fault(), 3);
        x.take();
        x.undo();
        check.due("fault()", x.fault(), 3);
    }

    private static void withoutOne() {
        check.sentence("NONE without one.");
        HoleHouse x = new HoleHouse();
        check.due("fault() ahead of a read()", x.fault(), NONE);
        Tapes.tell(x, "3: 3");
        check.due("fault() while it is only told", x.fault(), NONE);
        x.read();
        check.due("fault()", x.fault(), 3);
        Tapes.tell(x, "3: 2");
        x.read();
        check.due("fault() when the latest has none", x.fault(), NONE);
        check.due("fault() again", x.fault(), NONE);
    }
}
