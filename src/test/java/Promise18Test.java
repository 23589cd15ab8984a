/** Promise 18: feed. */
public final class Promise18Test {
    private static final int NONE = HoleHouse.NONE;
    private static final int BLANKS = 0x20202020;
    private static final Check check = new Check("Promise 18");

    public static void main(String[] args) {
        howManyItHas();
        theHighestFirst();
        bytesAbove127();
        behindWhatIsThere();
        upToTwoHundred();
        noMoreThanTwoHundred();
        nothingComes();
        check.finish();
    }

    private static int blanks(HoleHouse x) {
        return x.feed(BLANKS, BLANKS, BLANKS, BLANKS, BLANKS);
    }

    private static void howManyItHas() {
        check.sentence("Twenty bytes come behind the TAPE, of each number the highest first: how many it has.");
        HoleHouse x = new HoleHouse();
        check.due("feed() of zeros", x.feed(0, 0, 0, 0, 0), 20);
        check.due("feed() of -1", x.feed(-1, -1, -1, -1, -1), 40);
        check.due("end(40)", x.end(40), true);
        check.due("end(41)", x.end(41), false);
        x.end(3);
        check.due("feed() behind three", blanks(x), 23);
        x.end(0);
        check.due("feed() behind none", blanks(x), 20);
    }

    /** A sign that can't stand there, at each place by itself: the fault tells where it came. */
    private static void theHighestFirst() {
        for (int place = 0; place < 20; place++) {
            int[] five = {BLANKS, BLANKS, BLANKS, BLANKS, BLANKS};
            five[place / 4] ^= (' ' ^ 'x') << 24 - 8 * (place % 4);
            HoleHouse x = new HoleHouse();
            x.feed(five[0], five[1], five[2], five[3], five[4]);
            check.due("read()", x.read(), NONE);
            check.due("fault() with an x at " + place, x.fault(), place);
        }
        HoleHouse x = new HoleHouse();
        x.feed(0x363A3031, 0x32333435, BLANKS, BLANKS, 0x20203035);
        check.due("read() of 6:012345", x.read(), 64);
        x.feed(BLANKS, BLANKS, BLANKS, BLANKS, 0x333A3132);
        check.due("read() of the last number", x.read(), 4);
        check.due("has(6)", x.has(6), 1);
    }

    private static void bytesAbove127() {
        HoleHouse x = new HoleHouse();
        x.feed(0xB23A3030, BLANKS, BLANKS, BLANKS, BLANKS);
        check.due("read() of a 2 with the highest bit", x.read(), NONE);
        check.due("fault()", x.fault(), 0);
        x.feed(0x323A30B1, BLANKS, BLANKS, BLANKS, BLANKS);
        check.due("read() of a 1 with the highest bit", x.read(), NONE);
        check.due("fault()", x.fault(), 3);
        x.feed(0x323A30A0, BLANKS, BLANKS, BLANKS, BLANKS);
        check.due("read() of a blank with the highest bit", x.read(), NONE);
        check.due("fault()", x.fault(), 3);
    }

    private static void behindWhatIsThere() {
        HoleHouse x = new HoleHouse();
        Tapes.tell(x, "5: 0");
        check.due("feed() of digits behind a digit", x.feed(0x31323420, BLANKS, BLANKS, BLANKS, BLANKS), 24);
        check.due("read()", x.read(), 16);
        check.complex("read()", x, "5: 0124");
        x.write();
        x.take();
        check.due("feed() behind take()", x.feed(0x20332020, BLANKS, BLANKS, BLANKS, BLANKS), 27);
        check.due("read()", x.read(), 17);
        check.complex("read()", x, "5: 0124 3");
    }

    private static void upToTwoHundred() {
        check.sentence("NONE, and nothing comes, if there would be more than 200.");
        HoleHouse x = new HoleHouse();
        for (int count = 20; count <= 200; count += 20) {
            check.due("feed()", blanks(x), count);
        }
        check.due("end(200)", x.end(200), true);
        check.due("read() of 200 blanks", x.read(), NONE);
        check.due("fault() at the end", x.fault(), 200);
        check.due("feed() when the TAPE is empty again", blanks(x), 20);
    }

    private static void noMoreThanTwoHundred() {
        HoleHouse x = new HoleHouse();
        fill(x);
        for (int count = 200; count > 180; count--) {
            check.due("end(" + count + ")", x.end(count), true);
            check.due("feed() behind " + count, blanks(x), NONE);
        }
        check.due("end(180)", x.end(180), true);
        check.due("feed() behind 180", blanks(x), 200);
        check.due("feed() behind 200", blanks(x), NONE);
        x.end(100);
        check.due("feed() behind 100", blanks(x), 120);
    }

    private static void fill(HoleHouse x) {
        for (int i = 0; i < 10; i++) {
            blanks(x);
        }
    }

    private static void nothingComes() {
        HoleHouse x = new HoleHouse();
        Tapes.tell(x, "3: 01");
        for (int count = 25; count <= 185; count += 20) {
            check.due("feed()", blanks(x), count);
        }
        check.due("feed() behind 185", x.feed(-1, -1, -1, -1, -1), NONE);
        check.due("end(186)", x.end(186), false);
        check.due("read() of the TAPE as it was", x.read(), 4);
        fill(x);
        check.due("feed() behind 200", x.feed(-1, -1, -1, -1, -1), NONE);
        check.due("end(201)", x.end(201), false);
        check.due("read()", x.read(), NONE);
        check.due("fault() is at the end, not at what was refused", x.fault(), 200);
    }
}
