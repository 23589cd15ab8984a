/** The document's Terms, third part: TURNS, ALIKE points, LINK, DUAL, texts and their FAULTS. */
public final class TermsTextsTest {
    private static final int NONE = HoleHouse.NONE;
    private static final Check check = new Check("Terms");

    public static void main(String[] args) {
        turns();
        alike();
        link();
        linkNumbersAnew();
        dual();
        dualOfAFullOne();
        text();
        firstDigit();
        digitsOfAFace();
        betweenTwoFaces();
        blanks();
        written();
        writtenByNumbers();
        faults();
        faultsAtTheEnd();
        theFirstFault();
        check.finish();
    }

    private static void turns() {
        check.sentence("TURNS: orders of all points by which each FACE comes to a FACE.");
        check.due("a ring", Complexes.built(Complexes.PENTAGON).look(6), 10);
        check.due("a point that is no FACE stays", Complexes.built("3: 0 1").look(6), 2);
        check.due("two points that are no FACES turn, too", Complexes.built("4: 01").look(6), 4);
        check.due("an edge does not turn into two points apart", Complexes.built("4: 01 2 3").look(6), 4);
        check.due("a full triangle is not a hollow one", Complexes.built("6: 012 34 45 35").look(6), 36);
        check.due("two full ones", Complexes.built("6: 012 345").look(6), 72);
    }

    private static void alike() {
        check.sentence("ALIKE are two points, if a TURN brings the one to the other.");
        HoleHouse x = Complexes.built("4: 01 2 3");
        int[] classes = {0, 0, 1, 1};
        for (int p = 0; p < 4; p++) {
            for (int q = 0; q < 4; q++) {
                check.due("alike(" + p + ", " + q + ")", x.alike(p, q), classes[p] == classes[q] ? 1 : 0);
            }
        }
        check.due("look(7)", x.look(7), 2);
    }

    private static void linked(String text, int set, String want) {
        HoleHouse x = Complexes.built(text);
        check.due(text + " link(" + set + ")", x.link(set), Complexes.points(want));
        check.everySet(text + " link(" + set + ")", x, want);
    }

    private static void link() {
        check.sentence("LINK of a FACE s (not empty): the sets without a point of s that are FACES together with it;");
        linked("4: 012 23", 4, "3: 01 2");
        linked("4: 012 23", 3, "2: 0");
        linked("4: 012 23", 7, "1:");
        linked(Complexes.PENTAGON, 1, "4: 0 3");
        linked(Complexes.HOLLOW, 1, Complexes.hollow(5));
        linked("6: 01 02 12", 1, "5: 0 1");
        check.due("link(0)", Complexes.built("4: 012 23").link(0), NONE);
        check.due("link() of what is no FACE", Complexes.built("4: 012 23").link(9), NONE);
    }

    private static void linkNumbersAnew() {
        check.sentence("its points are those not in s, numbered anew in their order.");
        linked("5: 02 24 13", 4, "4: 0 3");
        linked("6: 0135 1245", 34, "4: 02 13");
        linked("6: 05", 1, "5: 4");
        linked("6: 05", 32, "5: 0");
        linked("6: 12345", 20, "4: 123");
    }

    private static void dual() {
        check.sentence("DUAL: the sets whose rest (all other points) is no FACE.");
        for (String text : new String[] {"1:", "2: 0", "4: 01 2", Complexes.SQUARE, Complexes.PENTAGON,
            Complexes.OCTAHEDRON, Complexes.PLANE, Complexes.HOLLOW, "6: 012 23 4", "6:"}) {
            HoleHouse x = Complexes.built(text);
            long family = Complexes.family(text);
            int all = (1 << Complexes.points(text)) - 1;
            check.due(text + " dual()", x.dual(), true);
            check.due(text + " look(0)", x.look(0), Complexes.points(text));
            for (int set = 0; set <= all; set++) {
                check.due(text + " has(" + set + ")", x.has(set), 1L - (family >>> all - set & 1L));
            }
        }
    }

    private static void dualOfAFullOne() {
        check.sentence("(Of a full COMPLEX, of which all sets are FACES, there is none.)");
        for (int n = 1; n <= 6; n++) {
            check.due("dual() of a full " + n, Complexes.built(Complexes.full(n)).dual(), false);
            check.due("dual() of all but one of " + n, Complexes.built(Complexes.hollow(n)).dual(), true);
        }
    }

    private static void good(String text, String want) {
        HoleHouse x = Complexes.built(Complexes.full(6));
        Tapes.tell(x, text);
        check.due("read() of '" + text + "'", x.read(), Long.bitCount(Complexes.family(want)));
        check.due("fault() of '" + text + "'", x.fault(), NONE);
        check.complex("'" + text + "'", x, want);
    }

    private static void bad(String text, int place) {
        HoleHouse x = Complexes.built("3: 0 12");
        Tapes.tell(x, text);
        check.due("read() of '" + text + "'", x.read(), NONE);
        check.due("fault() of '" + text + "'", x.fault(), place);
        check.complex("'" + text + "'", x, "3: 0 12");
    }

    private static void text() {
        check.sentence("A TEXT = N : {FACE}.");
        good("4:", "4:");
        good("4:0", "4: 0");
        good("4:0 12 3", "4: 0 12 3");
        good("4:12 12 1", "4: 12");
        bad("4", 1);
        bad("4 0", 2);
        bad(":0", 0);
        bad("4::", 2);
        bad("4:0:", 3);
        bad("4:0 :", 4);
        bad("4:0 4:", 4);
        bad("44:", 1);
    }

    private static void firstDigit() {
        check.sentence("N a digit 1 .. 6;");
        for (int sign = 0; sign < 256; sign++) {
            String text = (char) sign + ":";
            if (sign >= '1' && sign <= '6') {
                good(text, text);
            } else {
                bad(text, sign == 32 || sign == 10 ? 1 : 0);
            }
        }
    }

    private static void digitsOfAFace() {
        check.sentence("FACE: one or more digits below N, rising, one right behind the other;");
        for (int n = 1; n <= 6; n++) {
            good(n + ":" + (n - 1), n + ": " + (n - 1));
            bad(n + ":" + n, 2);
            bad(n + ":0" + n, 3);
            bad(n + ": " + (n - 1) + (n - 1), 4);
        }
        good("6:012345", "6: 012345");
        good("6:5", "6: 5");
        bad("6:10", 3);
        bad("6:0124 53", 8);
        bad("6:01233", 6);
        bad("6:012341", 7);
        for (int sign = 0; sign < 256; sign++) {
            if (sign != 32 && sign != 10 && (sign < '2' || sign > '4')) {
                bad("5:1" + (char) sign, 3);
            }
            if (sign != 32 && sign != 10 && (sign < '0' || sign > '4')) {
                bad("5:1 " + (char) sign, 4);
            }
        }
    }

    private static void betweenTwoFaces() {
        check.sentence("between two FACES a blank or more;");
        good("3:0 1", "3: 0 1");
        good("3:0  1", "3: 0 1");
        good("3:0\n1", "3: 0 1");
        good("3:0 \n \n1", "3: 0 1");
        good("3:01", "3: 01");
        bad("3:12 0101", 7);
        bad("3:0,1", 3);
        bad("3:0\t1", 3);
        bad("3:0\r1", 3);
    }

    private static void blanks() {
        check.sentence("blanks (32, 10) may stand anywhere but in a FACE.");
        good(" 3:01", "3: 01");
        good("\n3:01", "3: 01");
        good("3 :01", "3: 01");
        good("3\n:01", "3: 01");
        good("3: 01", "3: 01");
        good("3:\n01", "3: 01");
        good("3:01 ", "3: 01");
        good("3:01\n", "3: 01");
        good(" \n 3 \n : \n 0 \n 1 \n ", "3: 0 1");
        good("3: \n", "3:");
        for (int sign = 0; sign < 256; sign++) {
            if (sign != 32 && sign != 10 && sign != ':') {
                bad("3" + (char) sign + ":", 1);
            }
        }
    }

    private static void written() {
        check.sentence("WRITTEN it has N, :, then, each with a blank ahead, the GREATEST FACES");
        check.written("3: 0", "3: 0");
        check.written("6: 012 34", "6: 012 34");
        check.sentence("(within no other one; not the empty one),");
        check.written("5:", "5:");
        check.written("5: 0 1 01 012 02 12 3", "5: 012 3");
        check.written("5: 0123 34", "5: 0123 34");
        check.written("6: 0 01 012 0123 01234 012345", "6: 012345");
    }

    private static void writtenByNumbers() {
        check.sentence("by their numbers, the lesser first.");
        check.written("5: 34 12 0", "5: 0 12 34");
        check.written("4: 3 012", "4: 012 3");
        check.written("6: 5 04 13 012", "6: 012 13 04 5");
        check.written("6: 45 35 25 15 05 34 24 14 04 23 13 03 12 02 01",
            "6: 01 02 12 03 13 23 04 14 24 34 05 15 25 35 45");
    }

    private static void faults() {
        check.sentence("FAULTS: the first place at which something stands that can't");
        bad("x3:0", 0);
        bad("3x:0", 1);
        bad("3:x0", 2);
        bad("3:0x", 3);
        bad("3:0 x", 4);
        bad("3:0 1x", 5);
        bad("  0:", 2);
        bad("3 \n 3:", 4);
    }

    private static void faultsAtTheEnd() {
        check.sentence("(the end, too: the text's length).");
        bad("", 0);
        bad(" ", 1);
        bad("\n\n\n", 3);
        bad("3", 1);
        bad("3 ", 2);
        bad(" 3\n\n", 4);
        bad(" ".repeat(200), 200);
        bad("6" + " ".repeat(199), 200);
        bad("6:" + " ".repeat(197) + "6", 199);
        good("6:" + " ".repeat(197) + "5", "6: 5");
    }

    private static void theFirstFault() {
        check.sentence("FAULTS: the first place at which something stands that can't");
        bad("7x", 0);
        bad("3 x y", 2);
        bad("3: 0 3 4 5 x", 5);
        bad("3: 21 00 x", 4);
    }
}
