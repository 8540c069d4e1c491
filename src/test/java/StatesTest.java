/** Promises 9 and 10: loops of a state, and how many states have so many loops. */
public final class StatesTest {
    private static final Due due = new Due("StatesTest");

    public static void main(String[] args) {
        loopsWithoutLetters();
        loopsOfSmallBraids();
        loopsOfLongBraids();
        bitsBehindTheLetters();
        signsDoNotMatter();
        states();
        wrongNumbersOfLoops();
        due.end();
    }

    private static void loopsWithoutLetters() {
        for (int n = 2; n <= 4; n++) {
            due.is(n + " strands, loops(0)", new BraidKnots(n).loops(0), n);
            due.is(n + " strands, loops(-1)", new BraidKnots(n).loops(-1), n);
            due.is(n + " strands, states(n)", new BraidKnots(n).states(n), 1);
        }
    }

    private static void loopsOfSmallBraids() {
        due.is("one letter open", due.braid(2, 1).loops(0), 2);
        due.is("one letter shut", due.braid(2, 1).loops(1), 1);
        due.is("one letter of four strands shut", due.braid(4, 2).loops(1), 3);
        int[] trefoil = {2, 1, 1, 2, 1, 2, 2, 3};
        int[] threeStrands = {3, 2, 2, 1};
        for (int state = 0; state < 8; state++) {
            due.is("1 1 1, loops(" + state + ")", due.braid(2, 1, 1, 1).loops(state), trefoil[state]);
        }
        for (int state = 0; state < 4; state++) {
            due.is("1 2, loops(" + state + ")", due.braid(3, 1, 2).loops(state), threeStrands[state]);
        }
        // Shut letter by letter: the bits are told apart.
        BraidKnots braid = due.braid(3, 1, 2, 1);
        int[] wanted = {3, 2, 2, 1, 2, 3, 1, 2};
        for (int state = 0; state < 8; state++) {
            due.is("1 2 1, loops(" + state + ")", braid.loops(state), wanted[state]);
        }
    }

    private static void loopsOfLongBraids() {
        BraidKnots ring = due.braid(2, 1, 1, 1, 1, 1, 1, 1, 1, 1, 1);
        due.is("ten letters of two strands, all shut", ring.loops(1023), 10);
        BraidKnots most = due.braid(4, 3, 3, 3, 3, 3, 3, 3, 3, 3, 3);
        due.is("ten letters of four strands, all shut", most.loops(1023), 12);
        due.is("the tenth letter shut", most.loops(512), 3);
        due.is("the most loops there are", most.states(12), 1);
    }

    private static void bitsBehindTheLetters() {
        BraidKnots braid = due.braid(2, 1, 1, 1);
        due.is("loops(8)", braid.loops(8), 2);
        due.is("loops(15)", braid.loops(15), 3);
        due.is("loops(-1)", braid.loops(-1), 3);
        due.is("loops(-8)", braid.loops(-8), 2);
        due.is("loops(least)", braid.loops(Integer.MIN_VALUE), 2);
        due.is("loops(greatest)", braid.loops(Integer.MAX_VALUE), 3);
        due.is("loops(1024)", due.braid(2, 1, 1, 1, 1, 1, 1, 1, 1, 1, 1).loops(1024), 2);
    }

    private static void signsDoNotMatter() {
        BraidKnots one = due.braid(4, 1, 2, 3, 2, 1);
        BraidKnots other = due.braid(4, -1, 2, -3, 2, 1);
        for (int state = 0; state < 32; state++) {
            due.is("signs, loops(" + state + ")", other.loops(state), one.loops(state));
        }
    }

    private static void states() {
        int[] trefoil = {0, 3, 4, 1, 0};
        int[] figureEight = {0, 5, 8, 3, 0};
        for (int loops = 0; loops < 5; loops++) {
            due.is("1 1 1, states", due.braid(2, 1, 1, 1).states(loops), trefoil[loops]);
            due.is("1 -2 1 -2, states", due.braid(3, 1, -2, 1, -2).states(loops), figureEight[loops]);
        }
        BraidKnots full = due.braid(4, 1, 2, 3, 1, 2, 3, 1, 2, 3, 1);
        int sum = 0;
        for (int loops = 0; loops <= 14; loops++) {
            sum += full.states(loops);
        }
        due.is("all states of ten letters", sum, 1024);
    }

    private static void wrongNumbersOfLoops() {
        BraidKnots braid = due.braid(3, 1, 2);
        int[] none = {0, -1, 4, 100, Integer.MIN_VALUE, Integer.MAX_VALUE};
        for (int loops : none) {
            due.is("states(" + loops + ")", braid.states(loops), 0);
        }
    }
}
