import java.util.Map;
import java.util.TreeMap;

/**
 * All promises against PlainBraid: every short word, and runs of changes with refused calls among them.
 * No object is used for more than 512 calls, since nothing is promised after these.
 */
public final class ModelTest {
    private static final int[] ODD = {Integer.MIN_VALUE, Integer.MIN_VALUE + 1, -1024, -11, 11, 1023, 1024,
        Integer.MAX_VALUE - 1, Integer.MAX_VALUE};
    private static final int CHANGES = 12;
    private static final Due due = new Due("ModelTest");
    private static long seed = 20261115L;

    public static void main(String[] args) {
        everyWord(2, 7);
        everyWord(3, 4);
        everyWord(4, 3);
        for (int run = 0; run < 400; run++) {
            changes(run);
        }
        due.end();
    }

    private static void everyWord(int strands, int longest) {
        int letters = 2 * (strands - 1);
        int words = 1;
        for (int length = 0; length <= longest; length++) {
            for (int code = 0; code < words; code++) {
                PlainBraid plain = new PlainBraid(strands);
                int rest = code;
                for (int k = 0; k < length; k++) {
                    int digit = rest % letters;
                    plain.add(digit % 2 == 0 ? digit / 2 + 1 : -(digit / 2 + 1));
                    rest /= letters;
                }
                polynomials(copy(plain), plain);
                strands(copy(plain), plain);
                states(plain);
            }
            words *= letters;
        }
    }

    private static BraidKnots copy(PlainBraid plain) {
        return due.braid(plain.n, plain.word.stream().mapToInt(letter -> letter).toArray());
    }

    /** A fixed row of numbers, so that each run of the test is the same. */
    private static int next(int bound) {
        seed = seed * 6364136223846793005L + 1442695040888963407L;
        return (int) ((seed >>> 33) % bound);
    }

    private static int argument() {
        return next(6) == 0 ? ODD[next(ODD.length)] : next(15) - 4;
    }

    private static void changes(int run) {
        int strands = run % 6;
        BraidKnots braid = new BraidKnots(strands);
        PlainBraid plain = new PlainBraid(strands);
        for (int letters = next(16); letters > 0; letters--) {
            addSmall(braid, plain);
        }
        for (int step = 0; step < CHANGES; step++) {
            change(braid, plain);
            word(braid, plain);
        }
        strands(braid, plain);
        polynomials(braid, plain);
        if (run % 8 == 0) {
            states(plain);
        }
    }

    private static void addSmall(BraidKnots braid, PlainBraid plain) {
        int letter = next(9) - 4;
        due.is(plain.word + " add(" + letter + ")", braid.add(letter), plain.add(letter));
    }

    private static void change(BraidKnots braid, PlainBraid plain) {
        String when = plain.word + " ";
        int what = next(12);
        int argument = argument();
        switch (what) {
            case 0, 1 -> due.is(when + "drop(" + argument + ")", braid.drop(argument), plain.drop(argument));
            case 2 -> due.is(when + "turn()", braid.turn(), plain.turn());
            case 3 -> due.is(when + "mirror()", braid.mirror(), plain.mirror());
            case 4 -> due.is(when + "reverse()", braid.reverse(), plain.reverse());
            case 5 -> due.is(when + "add(" + argument + ")", braid.add(argument), plain.add(argument));
            default -> addSmall(braid, plain);
        }
    }

    private static void word(BraidKnots braid, PlainBraid plain) {
        String when = plain.word + " ";
        for (int k = -1; k <= plain.word.size(); k++) {
            due.is(when + "letter(" + k + ")", braid.letter(k), plain.letter(k));
        }
        int argument = argument();
        due.is(when + "letter(" + argument + ")", braid.letter(argument), plain.letter(argument));
        due.is(when + "loops(" + argument + ")", braid.loops(argument), plain.loops(argument));
    }

    private static void polynomials(BraidKnots braid, PlainBraid plain) {
        String when = plain.n + " strands " + plain.word + " ";
        TreeMap<Integer, Integer> bracket = plain.bracket();
        Map<Integer, Integer> invariant = plain.invariant(bracket);
        for (int e = -40; e <= 40; e++) {
            due.is(when + "bracket(" + e + ")", braid.bracket(e), bracket.getOrDefault(e, 0));
            due.is(when + "invariant(" + e + ")", braid.invariant(e), invariant.getOrDefault(e, 0));
        }
        due.is(when + "spread()", braid.spread(), plain.spread(bracket));
        due.is(when + "determinant()", braid.determinant(), plain.determinant(bracket));
    }

    private static void strands(BraidKnots braid, PlainBraid plain) {
        String when = plain.n + " strands " + plain.word + " ";
        due.is(when + "writhe()", braid.writhe(), plain.writhe());
        due.is(when + "components()", braid.components(), plain.components());
        for (int i = -1; i <= 4; i++) {
            due.is(when + "ends(" + i + ")", braid.ends(i), plain.ends(i));
            for (int j = -1; j <= 4; j++) {
                due.is(when + "linking(" + i + ", " + j + ")", braid.linking(i, j), plain.linking(i, j));
            }
        }
        for (int p = -1; p <= 8; p++) {
            due.is(when + "colourings(" + p + ")", braid.colourings(p), plain.colourings(p));
        }
    }

    private static void states(PlainBraid plain) {
        String when = plain.n + " strands " + plain.word + " ";
        BraidKnots braid = copy(plain);
        for (int state = 0; state < 1 << plain.word.size(); state++) {
            if (state % 256 == 0) {
                braid = copy(plain);
            }
            due.is(when + "loops(" + state + ")", braid.loops(state), plain.loops(state));
        }
        for (int loops = -1; loops <= 15; loops++) {
            due.is(when + "states(" + loops + ")", braid.states(loops), plain.states(loops));
        }
        for (int odd : ODD) {
            due.is(when + "loops(" + odd + ")", braid.loops(odd), plain.loops(odd));
            due.is(when + "states(" + odd + ")", braid.states(odd), plain.states(odd));
            due.is(when + "ends(" + odd + ")", braid.ends(odd), plain.ends(odd));
            due.is(when + "linking(0, " + odd + ")", braid.linking(0, odd), plain.linking(0, odd));
            due.is(when + "linking(" + odd + ", 1)", braid.linking(odd, 1), plain.linking(odd, 1));
            due.is(when + "colourings(" + odd + ")", braid.colourings(odd), plain.colourings(odd));
        }
    }
}
