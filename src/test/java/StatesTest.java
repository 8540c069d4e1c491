/** Promises 9 and 10: loops of a state, and how many states have so many loops. */
public final class StatesTest {
    private static final int LEAST = Integer.MIN_VALUE;
    private static final int GREATEST = Integer.MAX_VALUE;
    private static final Due due = new Due("StatesTest");

    public static void main(String[] args) {
        openPositionsGoOn();
        shutPositionsAreJoined();
        otherPositionsGoOn();
        bottomIsJoinedToTheTop();
        eachBitIsALetter();
        loopsWithoutLetters();
        firstAndLastBitOfAFullWord();
        bitsBehindTheLetters();
        bitsBehindAFullWord();
        bitsOfTheLettersThatAreLeft();
        fewestAndMostLoops();
        signsDoNotMatter();
        statesOfSmallBraids();
        statesWithoutLetters();
        statesWithTooFewLoops();
        statesWithTooManyLoops();
        statesOfFullWords();
        due.end();
    }

    private static void openPositionsGoOn() {
        due.sentence("9: where a letter is open, what comes from above goes on");
        for (int n = 2; n <= 4; n++) {
            due.is(n + " strands, one letter", due.braid(n, 1).loops(0), n);
            due.is(n + " strands, ten letters", due.braid(n, Due.times(10, n - 1)).loops(0), n);
        }
    }

    private static void shutPositionsAreJoined() {
        due.sentence("9: where it is shut, the positions above it and those below it are joined");
        due.is("1", due.braid(2, 1).loops(1), 1);
        due.is("-1", due.braid(2, -1).loops(1), 1);
        due.is("1 1, a loop between two shut letters", due.braid(2, 1, 1).loops(3), 2);
    }

    private static void otherPositionsGoOn() {
        due.sentence("9: all other positions go on");
        for (int i = 1; i <= 3; i++) {
            due.is("4 strands, letter " + i + " shut", due.braid(4, i).loops(1), 3);
            due.is("4 strands, letter -" + i + " shut", due.braid(4, -i).loops(1), 3);
        }
        due.is("1 3, both shut", due.braid(4, 1, 3).loops(3), 2);
    }

    private static void bottomIsJoinedToTheTop() {
        due.sentence("9: with the bottom joined to the top everything falls into closed loops");
        due.is("1 2 shut: one loop goes all the way", due.braid(3, 1, 2).loops(3), 1);
        due.is("1 2 1 shut: the ends make one, the midst makes another", due.braid(3, 1, 2, 1).loops(7), 2);
        due.is("1 2 1, the midst open", due.braid(3, 1, 2, 1).loops(5), 3);
        due.is("1 2 3 shut", due.braid(4, 1, 2, 3).loops(7), 1);
    }

    private static void eachBitIsALetter() {
        due.sentence("9: letter k (from 0) is shut if bit k of state is 1, else open");
        int[] trefoil = {2, 1, 1, 2, 1, 2, 2, 3};
        int[] three = {3, 2, 2, 1, 2, 3, 1, 2};
        int[] back = {3, 2, 2, 1, 2, 1, 3, 2};
        for (int state = 0; state < 8; state++) {
            due.is("1 1 1, loops(" + state + ")", due.braid(2, 1, 1, 1).loops(state), trefoil[state]);
            due.is("1 2 1, loops(" + state + ")", due.braid(3, 1, 2, 1).loops(state), three[state]);
            due.is("1 2 2, loops(" + state + ")", due.braid(3, 1, 2, 2).loops(state), back[state]);
        }
    }

    private static void loopsWithoutLetters() {
        due.sentence("9: without letters no bit is looked at");
        for (int n = 2; n <= 4; n++) {
            for (int state : new int[] {0, 1, 1023, -1, LEAST, GREATEST}) {
                due.is(n + " strands, loops(" + state + ")", new BraidKnots(n).loops(state), n);
            }
        }
    }

    private static void firstAndLastBitOfAFullWord() {
        due.sentence("9: bits 0 and 9 of a full word");
        BraidKnots full = due.braid(3, 1, 2, 2, 2, 2, 2, 2, 2, 2, 1);
        due.is("bit 0", full.loops(1), 2);
        due.is("bit 9", full.loops(512), 2);
        due.is("both: the letters are the same", full.loops(513), 3);
        due.is("bits 0 and 8: they are not", full.loops(257), 1);
    }

    private static void bitsBehindTheLetters() {
        due.sentence("9: bits behind the letters are not looked at");
        BraidKnots braid = due.braid(2, 1, 1, 1);
        due.is("loops(8)", braid.loops(8), 2);
        due.is("loops(9)", braid.loops(9), 1);
        due.is("loops(15)", braid.loops(15), 3);
        due.is("loops(-1)", braid.loops(-1), 3);
        due.is("loops(-7)", braid.loops(-7), 1);
        due.is("loops(-8)", braid.loops(-8), 2);
        due.is("loops(1023)", braid.loops(1023), 3);
        due.is("loops(least)", braid.loops(LEAST), 2);
        due.is("loops(least + 1)", braid.loops(LEAST + 1), 1);
        due.is("loops(greatest)", braid.loops(GREATEST), 3);
    }

    private static void bitsBehindAFullWord() {
        due.sentence("9: bits behind ten letters are not looked at");
        BraidKnots full = due.braid(2, Due.times(10, 1));
        due.is("loops(1024)", full.loops(1024), 2);
        due.is("loops(1025)", full.loops(1025), 1);
        due.is("loops(2047)", full.loops(2047), 10);
        due.is("loops(-1)", full.loops(-1), 10);
        due.is("loops(-1024)", full.loops(-1024), 2);
        due.is("loops(least)", full.loops(LEAST), 2);
        due.is("loops(greatest)", full.loops(GREATEST), 10);
    }

    private static void bitsOfTheLettersThatAreLeft() {
        due.sentence("9: after a letter was dropped its bit is behind the letters");
        BraidKnots braid = due.braid(3, 1, 2, 1);
        due.is("loops(7)", braid.loops(7), 2);
        due.is("drop(2)", braid.drop(2), 1);
        due.is("loops(7), two letters", braid.loops(7), 1);
        due.is("loops(4), two letters", braid.loops(4), 3);
    }

    private static void fewestAndMostLoops() {
        due.sentence("9: the fewest loops and the most");
        due.is("2 strands, fewest", due.braid(2, Due.times(10, 1)).loops(512), 1);
        due.is("2 strands, most", due.braid(2, Due.times(10, 1)).loops(1023), 10);
        due.is("3 strands, most", due.braid(3, Due.times(10, -2)).loops(1023), 11);
        due.is("4 strands, most", due.braid(4, Due.times(10, 3)).loops(1023), 12);
        due.is("4 strands, fewest", due.braid(4, 1, 2, 3, 1, 2, 3, 1, 2, 3, 1).loops(7), 1);
    }

    private static void signsDoNotMatter() {
        due.sentence("9: letter i or -i");
        BraidKnots one = due.braid(4, 1, 2, 3, 2, 1);
        BraidKnots other = due.braid(4, -1, 2, -3, 2, 1);
        for (int state = 0; state < 32; state++) {
            due.is("signs, loops(" + state + ")", other.loops(state), one.loops(state));
        }
    }

    private static void statesOfSmallBraids() {
        due.sentence("10: how many states have so many loops");
        int[] trefoil = {0, 3, 4, 1, 0};
        int[] figureEight = {0, 5, 8, 3, 0};
        for (int loops = 0; loops < 5; loops++) {
            due.is("1 1 1, states(" + loops + ")", due.braid(2, 1, 1, 1).states(loops), trefoil[loops]);
            due.is("1 -2 1 -2, states(" + loops + ")", due.braid(3, 1, -2, 1, -2).states(loops), figureEight[loops]);
        }
    }

    private static void statesWithoutLetters() {
        due.sentence("10: without letters there is one state, with n loops");
        for (int n = 2; n <= 4; n++) {
            for (int loops = -1; loops <= 6; loops++) {
                int wanted = loops == n ? 1 : 0;
                due.is(n + " strands, states(" + loops + ")", new BraidKnots(n).states(loops), wanted);
            }
        }
    }

    private static void statesWithTooFewLoops() {
        due.sentence("10: no state has less than one loop");
        BraidKnots braid = due.braid(3, 1, 2);
        due.is("states(1)", braid.states(1), 1);
        for (int loops : new int[] {0, -1, -2, -1000, -1001, -1002, LEAST, LEAST + 1}) {
            due.is("states(" + loops + ")", braid.states(loops), 0);
        }
    }

    private static void statesWithTooManyLoops() {
        due.sentence("10: no state has more loops than there are");
        BraidKnots braid = due.braid(3, 1, 2);
        due.is("states(3)", braid.states(3), 1);
        for (int loops : new int[] {4, 5, 14, 15, 100, GREATEST - 1, GREATEST}) {
            due.is("states(" + loops + ")", braid.states(loops), 0);
        }
    }

    /** Of ten letters on two strands k are shut in C(10, k) states, and make k loops; if none is, 2. */
    private static void statesOfFullWords() {
        due.sentence("10: all states of a full word");
        int[] wanted = {0, 10, 46, 120, 210, 252, 210, 120, 45, 10, 1, 0, 0};
        BraidKnots ring = due.braid(2, Due.times(10, -1));
        for (int loops = 0; loops < wanted.length; loops++) {
            due.is("ten turns, states(" + loops + ")", ring.states(loops), wanted[loops]);
        }
        BraidKnots most = due.braid(4, Due.times(10, 3));
        due.is("states(12)", most.states(12), 1);
        due.is("states(13)", most.states(13), 0);
        BraidKnots full = due.braid(4, 1, 2, 3, 1, 2, 3, 1, 2, 3, 1);
        int sum = 0;
        for (int loops = 1; loops <= 14; loops++) {
            sum += full.states(loops);
        }
        due.is("all states of ten letters", sum, 1024);
    }
}
