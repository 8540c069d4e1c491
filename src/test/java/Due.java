/** Counts the answers that are not as due and prints each of them. */
final class Due {
    private final String test;
    private int looked;
    private int wrong;

    Due(String test) {
        this.test = test;
    }

    void is(String call, long got, long want) {
        looked++;
        if (got != want) {
            wrong++;
            System.out.println(test + ": " + call + " answered " + got + ", due is " + want);
        }
    }

    void holds(String what, boolean held) {
        looked++;
        if (!held) {
            wrong++;
            System.out.println(test + ": does not hold: " + what);
        }
    }

    void end() {
        System.out.println(looked + " answers looked at, " + wrong + " not as due");
        if (wrong != 0) {
            System.exit(1);
        }
    }

    /** A new object with these letters; each of them must be taken. */
    BraidKnots braid(int strands, int... letters) {
        BraidKnots made = new BraidKnots(strands);
        for (int k = 0; k < letters.length; k++) {
            is("add(" + letters[k] + ")", made.add(letters[k]), k + 1);
        }
        return made;
    }

    void word(String when, BraidKnots braid, int... letters) {
        for (int k = 0; k < letters.length; k++) {
            is(when + ", letter(" + k + ")", braid.letter(k), letters[k]);
        }
        is(when + ", letter(" + letters.length + ")", braid.letter(letters.length), BraidKnots.NONE);
    }
}
