/** Promise 19: end. */
public final class Promise19Test {
    private static final Check check = new Check("Promise 19");

    public static void main(String[] args) {
        itsFirstBytesAlone();
        allOrNone();
        notSoMany();
        belowZero();
        changingNothing();
        check.finish();
    }

    private static void fed(HoleHouse x) {
        x.feed(0x333A2030, 0x31203132, 0x20303132, 0x20202020, 0x20202020);
    }

    private static void itsFirstBytesAlone() {
        check.sentence("The TAPE has its first n bytes alone: true;");
        String[] texts = {"3:", "3:", "3: 0", "3: 01", "3: 01", "3: 01 1", "3: 01 12"};
        for (int i = 0; i < texts.length; i++) {
            HoleHouse x = new HoleHouse();
            fed(x);
            check.due("end(" + (i + 2) + ")", x.end(i + 2), true);
            check.due("end(" + (i + 3) + ") when they are gone", x.end(i + 3), false);
            check.due("read()", x.read(), Long.bitCount(Complexes.family(texts[i])));
            check.complex("end(" + (i + 2) + ")", x, texts[i]);
        }
        HoleHouse x = new HoleHouse();
        fed(x);
        x.end(5);
        check.due("feed() comes where the TAPE ends", x.feed(0x32202020, 0x20202020, 0x20202020, 0x20202020, 0), 25);
        x.end(21);
        check.due("read()", x.read(), 8);
    }

    private static void allOrNone() {
        HoleHouse x = new HoleHouse();
        check.due("end(0) of an empty TAPE", x.end(0), true);
        fed(x);
        check.due("end(20), all", x.end(20), true);
        check.due("end(20), all again", x.end(20), true);
        check.due("end(0), none", x.end(0), true);
        check.due("read() of none", x.read(), HoleHouse.NONE);
        check.due("fault()", x.fault(), 0);
    }

    private static void notSoMany() {
        check.sentence("false, changing nothing, if it has not so many");
        HoleHouse x = new HoleHouse();
        check.due("end(1) of an empty TAPE", x.end(1), false);
        fed(x);
        for (int n : new int[] {21, 22, 200, 201, 1 << 16, Integer.MAX_VALUE}) {
            check.due("end(" + n + ") of 20", x.end(n), false);
        }
        check.due("end(19)", x.end(19), true);
        check.due("end(20) of 19", x.end(20), false);
        x.read();
        check.due("end(1) behind read()", x.end(1), false);
        x.write();
        x.take();
        check.due("end() of one more than take() brought", x.end(x.take() + 1), false);
        check.due("end() of all that take() brought", x.end(x.take()), true);
    }

    private static void belowZero() {
        check.sentence("or n is below 0.");
        HoleHouse x = new HoleHouse();
        for (int n : new int[] {-1, -20, Integer.MIN_VALUE, Integer.MIN_VALUE + 20}) {
            check.due("end(" + n + ") of an empty TAPE", x.end(n), false);
        }
        fed(x);
        for (int n : new int[] {-1, -20, Integer.MIN_VALUE, Integer.MIN_VALUE + 20}) {
            check.due("end(" + n + ") of 20", x.end(n), false);
        }
        check.due("end(20)", x.end(20), true);
    }

    private static void changingNothing() {
        HoleHouse x = new HoleHouse();
        fed(x);
        x.end(21);
        x.end(-1);
        check.due("feed() behind all twenty", x.feed(0x20202020, 0x20202020, 0x20202020, 0x20202020, 0x20202020), 40);
        check.due("read() of the TAPE as it was", x.read(), 8);
        check.due("undo() of read()", x.undo(), true);
        check.due("undo(): end() is no move", x.undo(), false);
    }
}
