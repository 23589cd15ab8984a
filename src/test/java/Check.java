/** Counts and prints the answers that are not as due, each with the sentence of the document that asks for it. */
final class Check {
    private final String head;
    private String sentence = "";
    private int wrong = 0;

    Check() {
        this("");
    }

    /** The head in the document under which the sentences stand. */
    Check(String head) {
        this.head = head;
    }

    /** The words of the document that the checks from here on are about; DocumentTest looks them up. */
    void sentence(String... words) {
        sentence = String.join(" ", words);
    }

    void due(String call, long got, long want) {
        if (got != want) {
            tell(call + " answered " + got + ", due is " + want);
        }
    }

    void due(String call, boolean got, boolean want) {
        due(call, got ? 1L : 0L, want ? 1L : 0L);
    }

    void hold(String what, boolean holds) {
        if (!holds) {
            tell("does not hold: " + what);
        }
    }

    /**
     * N, the number of FACES and the FACES that the text names are as the text tells; since all sets within a FACE are
     * FACES, there is no room for another one. Few calls, so that one object can be looked at often.
     */
    void complex(String when, HoleHouse house, String text) {
        due(when + ": look(0)", house.look(0), Complexes.points(text));
        due(when + ": look(1)", house.look(1), Long.bitCount(Complexes.family(text)));
        for (int set : Complexes.named(text)) {
            due(when + ": has(" + set + ")", house.has(set), 1);
        }
    }

    /** As complex(), but each set by itself, and the first that can't be. */
    void everySet(String when, HoleHouse house, String text) {
        int sets = 1 << Complexes.points(text);
        long family = Complexes.family(text);
        complex(when, house, text);
        for (int set = 0; set < sets; set++) {
            due(when + ": has(" + set + ")", house.has(set), family >>> set & 1L);
        }
        due(when + ": has(" + sets + ")", house.has(sets), HoleHouse.NONE);
    }

    /** The complex that the text tells is written as is wanted. */
    void written(String text, String want) {
        HoleHouse house = Complexes.built(text);
        due(text + " write()", house.write(), want.length());
        String got = Tapes.written(house);
        hold(text + " is written '" + want + "', not '" + got + "'", got.equals(want));
    }

    int wrong() {
        return wrong;
    }

    void finish() {
        System.out.println(wrong == 0 ? "all answers are as due" : wrong + " answers are not as due");
        if (wrong != 0) {
            System.exit(1);
        }
    }

    private void tell(String what) {
        wrong++;
        String where = (head + (sentence.isEmpty() ? "" : " '" + sentence + "'")).trim();
        System.out.println(where.isEmpty() ? what : where + ": " + what);
    }
}
