import java.util.Arrays;

/** Counts the answers that are not as due and prints each of them with the sentence that it breaks. */
final class Due {
    private static final int MOST_LETTERS = 10;

    private final String test;
    private String sentence = "";
    private int looked;
    private int lookedBefore;
    private int wrong;

    Due(String test) {
        this.test = test;
    }

    /** Names the sentence of the document that the answers looked at from here on belong to. */
    void sentence(String words) {
        closeSentence();
        sentence = words;
    }

    /** A sentence under which nothing was looked at must not pass for one that holds. */
    private void closeSentence() {
        if (!sentence.isEmpty() && looked == lookedBefore) {
            wrong++;
            System.out.println(test + ": nothing looked at under [" + sentence + "]");
        }
        lookedBefore = looked;
    }

    void is(String call, long got, long want) {
        looked++;
        if (got != want) {
            wrong++;
            System.out.println(test + " [" + sentence + "]: " + call + " answered " + got + ", due is " + want);
        }
    }

    void holds(String what, boolean held) {
        looked++;
        if (!held) {
            wrong++;
            System.out.println(test + " [" + sentence + "]: does not hold: " + what);
        }
    }

    void end() {
        closeSentence();
        System.out.println(looked + " answers looked at, " + wrong + " not as due");
        if (wrong != 0) {
            System.exit(1);
        }
    }

    /** A new object with these letters; each of them must be taken. */
    BraidKnots braid(int strands, int... letters) {
        BraidKnots made = new BraidKnots(strands);
        for (int k = 0; k < letters.length; k++) {
            is("add(" + letters[k] + ")", made.add(letters[k]), k + 1);
        }
        return made;
    }

    /** So many times the same letter. */
    static int[] times(int count, int letter) {
        int[] letters = new int[count];
        Arrays.fill(letters, letter);
        return letters;
    }

    /** The object has this word, and nothing behind it. */
    void word(String when, BraidKnots braid, int... letters) {
        for (int k = 0; k < letters.length; k++) {
            is(when + ", letter(" + k + ")", braid.letter(k), letters[k]);
        }
        for (int k = letters.length; k <= MOST_LETTERS; k++) {
            is(when + ", letter(" + k + ")", braid.letter(k), BraidKnots.NONE);
        }
    }

    /** Whatever can be asked is answered as by a new object with these letters: some 200 calls. */
    void asNew(String when, BraidKnots braid, int strands, int... letters) {
        BraidKnots twin = braid(strands, letters);
        word(when, braid, letters);
        is(when + ", writhe()", braid.writhe(), twin.writhe());
        for (int state : new int[] {0, 1, 341, 512, 682, -1}) {
            is(when + ", loops(" + state + ")", braid.loops(state), twin.loops(state));
        }
        for (int loops = 0; loops <= 5; loops++) {
            is(when + ", states(" + loops + ")", braid.states(loops), twin.states(loops));
        }
        for (int e = -34; e <= 34; e++) {
            is(when + ", bracket(" + e + ")", braid.bracket(e), twin.bracket(e));
            is(when + ", invariant(" + e + ")", braid.invariant(e), twin.invariant(e));
        }
        is(when + ", spread()", braid.spread(), twin.spread());
        is(when + ", determinant()", braid.determinant(), twin.determinant());
        is(when + ", components()", braid.components(), twin.components());
        for (int i = 0; i <= 4; i++) {
            is(when + ", ends(" + i + ")", braid.ends(i), twin.ends(i));
            for (int j = 0; j <= 4; j++) {
                is(when + ", linking(" + i + ", " + j + ")", braid.linking(i, j), twin.linking(i, j));
            }
        }
        for (int p : new int[] {2, 3, 5, 7}) {
            is(when + ", colourings(" + p + ")", braid.colourings(p), twin.colourings(p));
        }
    }
}
