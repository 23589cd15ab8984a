/** Promise 23: out. */
public final class Promise23Test {
    private static final int NONE = HoleHouse.NONE;
    private static final Check check = new Check("Promise 23");

    public static void main(String[] args) {
        eachByte();
        noneIsWritten();
        thereIsNone();
        check.finish();
    }

    private static void eachByte() {
        check.sentence("Byte i of OUT;");
        for (String text : new String[] {"1:", "3: 12", Complexes.OCTAHEDRON, Complexes.skeleton(6, 3)}) {
            HoleHouse x = Complexes.built(text);
            x.write();
            for (int i = 0; i < text.length(); i++) {
                check.due(text + " out(" + i + ")", x.out(i), text.charAt(i));
            }
            check.due(text + " out(0) again", x.out(0), text.charAt(0));
        }
    }

    private static void noneIsWritten() {
        check.sentence("NONE if there is none.");
        HoleHouse x = new HoleHouse();
        for (int i : new int[] {0, 1, -1, 199, 200}) {
            check.due("out(" + i + ") ahead of write()", x.out(i), NONE);
        }
        Tapes.tell(x, "3: 01");
        check.due("out(0): the TAPE is not OUT", x.out(0), NONE);
        x.read();
        check.due("out(0) behind read()", x.out(0), NONE);
    }

    private static void thereIsNone() {
        for (String text : new String[] {"1:", "3: 12", Complexes.skeleton(6, 3)}) {
            HoleHouse x = Complexes.built(text);
            int length = x.write();
            check.hold(text + " the last byte is there", x.out(length - 1) != NONE);
            for (int i : new int[] {-1, length, length + 1, 199, 200, 201, 256}) {
                check.due(text + " out(" + i + ")", x.out(i), NONE);
            }
            for (int i : Complexes.FAR) {
                check.due(text + " out(" + i + ")", x.out(i), NONE);
            }
        }
    }
}
