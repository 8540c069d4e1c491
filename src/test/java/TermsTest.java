/** What stands under "Terms" and over all promises: refused calls, the 512 calls, and that nothing throws. */
public final class TermsTest {
    private static final int LEAST = Integer.MIN_VALUE;
    private static final int GREATEST = Integer.MAX_VALUE;
    private static final int MOST_CALLS = 512;
    private static final int[] ODD = {LEAST, LEAST + 1, -1025, -11, -10, -5, -4, -3, -2, -1, 0, 1, 2, 3, 4, 5, 6, 7,
        8, 9, 10, 11, 31, 32, 73, 1023, 1024, GREATEST - 1, GREATEST};
    private static final int[] NO_LETTERS = {};
    private static final int[] SOME = {1, -2, 2, 1, 1};
    private static final int[] FULL_WORD = {1, 2, -1, -2, 1, 1, 2, 2, -1, 2};
    private static final int[] ONE_COMPONENT = {1, -2, 1, -2};
    private static final Due due = new Due("TermsTest");

    public static void main(String[] args) {
        constants();
        refusedAddOfAWrongLetterChangesNothing();
        refusedAddToAFullWordChangesNothing();
        refusedDropChangesNothing();
        refusedTurnChangesNothing();
        refusedLetterChangesNothing();
        refusedEndsChangesNothing();
        refusedLinkingOfWrongPositionsChangesNothing();
        refusedLinkingInOneComponentChangesNothing();
        refusedColouringsChangesNothing();
        askingChangesNothing();
        changesLeaveNothingBehind();
        noCallThrows();
        objectsStandApart();
        lastCallThatIsPromised();
        due.end();
    }

    private static void constants() {
        due.sentence("Terms: the constants");
        due.is("BAD_ARG", BraidKnots.BAD_ARG, -1000);
        due.is("FULL", BraidKnots.FULL, -1001);
        due.is("NONE", BraidKnots.NONE, -1002);
    }

    private static void refusedAddOfAWrongLetterChangesNothing() {
        due.sentence("Terms: a refused call changes nothing, add with BAD_ARG");
        for (int[] letters : new int[][] {NO_LETTERS, SOME, FULL_WORD}) {
            BraidKnots braid = due.braid(3, letters);
            for (int letter : new int[] {0, 3, -3, LEAST, GREATEST}) {
                due.is("add(" + letter + ")", braid.add(letter), BraidKnots.BAD_ARG);
            }
            due.asNew("after refused adds", braid, 3, letters);
        }
    }

    private static void refusedAddToAFullWordChangesNothing() {
        due.sentence("Terms: a refused call changes nothing, add with FULL");
        BraidKnots braid = due.braid(3, FULL_WORD);
        for (int letter : new int[] {1, -1, 2, -2}) {
            due.is("add(" + letter + ")", braid.add(letter), BraidKnots.FULL);
        }
        due.asNew("after refused adds", braid, 3, FULL_WORD);
        due.is("drop(0)", braid.drop(0), 1);
        due.word("one dropped", braid, 2, -1, -2, 1, 1, 2, 2, -1, 2);
    }

    private static void refusedDropChangesNothing() {
        due.sentence("Terms: a refused call changes nothing, drop");
        for (int[] letters : new int[][] {NO_LETTERS, SOME, FULL_WORD}) {
            BraidKnots braid = due.braid(3, letters);
            for (int k : new int[] {-1, letters.length, letters.length + 1, 10, LEAST, GREATEST}) {
                due.is("drop(" + k + ")", braid.drop(k), BraidKnots.NONE);
            }
            due.asNew("after refused drops", braid, 3, letters);
        }
    }

    private static void refusedTurnChangesNothing() {
        due.sentence("Terms: a refused call changes nothing, turn");
        BraidKnots braid = new BraidKnots(3);
        due.is("turn()", braid.turn(), BraidKnots.NONE);
        due.is("turn() again", braid.turn(), BraidKnots.NONE);
        due.asNew("after refused turns", braid, 3, NO_LETTERS);
        due.is("add(1)", braid.add(1), 1);
    }

    private static void refusedLetterChangesNothing() {
        due.sentence("Terms: a refused call changes nothing, letter");
        for (int[] letters : new int[][] {NO_LETTERS, SOME, FULL_WORD}) {
            BraidKnots braid = due.braid(3, letters);
            for (int k : new int[] {-1, letters.length, 10, LEAST, GREATEST}) {
                due.is("letter(" + k + ")", braid.letter(k), BraidKnots.NONE);
            }
            due.asNew("after refused letters", braid, 3, letters);
        }
    }

    private static void refusedEndsChangesNothing() {
        due.sentence("Terms: a refused call changes nothing, ends");
        for (int[] letters : new int[][] {NO_LETTERS, SOME, FULL_WORD}) {
            BraidKnots braid = due.braid(3, letters);
            for (int position : new int[] {-1, 3, LEAST, GREATEST}) {
                due.is("ends(" + position + ")", braid.ends(position), BraidKnots.BAD_ARG);
            }
            due.asNew("after refused ends", braid, 3, letters);
        }
    }

    private static void refusedLinkingOfWrongPositionsChangesNothing() {
        due.sentence("Terms: a refused call changes nothing, linking with BAD_ARG");
        for (int[] letters : new int[][] {NO_LETTERS, SOME, FULL_WORD}) {
            BraidKnots braid = due.braid(3, letters);
            for (int position : new int[] {-1, 3, LEAST, GREATEST}) {
                due.is("linking(" + position + ", 0)", braid.linking(position, 0), BraidKnots.BAD_ARG);
                due.is("linking(0, " + position + ")", braid.linking(0, position), BraidKnots.BAD_ARG);
            }
            due.asNew("after refused linkings", braid, 3, letters);
        }
    }

    private static void refusedLinkingInOneComponentChangesNothing() {
        due.sentence("Terms: a refused call changes nothing, linking with NONE");
        BraidKnots braid = due.braid(3, ONE_COMPONENT);
        due.is("linking(0, 2)", braid.linking(0, 2), BraidKnots.NONE);
        due.is("linking(1, 1)", braid.linking(1, 1), BraidKnots.NONE);
        due.asNew("after refused linkings", braid, 3, ONE_COMPONENT);
    }

    private static void refusedColouringsChangesNothing() {
        due.sentence("Terms: a refused call changes nothing, colourings");
        for (int[] letters : new int[][] {NO_LETTERS, SOME, FULL_WORD}) {
            BraidKnots braid = due.braid(3, letters);
            for (int p : new int[] {-2, 0, 1, 4, 6, 8, LEAST, GREATEST}) {
                due.is("colourings(" + p + ")", braid.colourings(p), BraidKnots.BAD_ARG);
            }
            due.asNew("after refused colourings", braid, 3, letters);
        }
    }

    private static void askingChangesNothing() {
        due.sentence("Terms: what only asks changes nothing");
        for (int[] letters : new int[][] {NO_LETTERS, SOME, FULL_WORD}) {
            BraidKnots braid = due.braid(3, letters);
            due.asNew("asked once", braid, 3, letters);
            due.asNew("asked twice", braid, 3, letters);
        }
    }

    private static void changesLeaveNothingBehind() {
        due.sentence("Terms: answers are those of the word as it is");
        BraidKnots braid = due.braid(3, FULL_WORD);
        due.is("determinant() of the full word", braid.determinant(), due.braid(3, FULL_WORD).determinant());
        for (int k = 9; k >= 5; k--) {
            due.is("drop(" + k + ")", braid.drop(k), FULL_WORD[k]);
        }
        due.is("mirror()", braid.mirror(), 5);
        due.is("turn()", braid.turn(), -1);
        due.is("reverse()", braid.reverse(), 5);
        due.asNew("dropped, mirrored, turned and reversed", braid, 3, -1, -1, 2, 1, -2);
    }

    /** Every call with every odd argument; where one throws, the test ends with its trace and fails. */
    private static void noCallThrows() {
        due.sentence("Terms: no call ever throws");
        for (int strands : new int[] {LEAST, -1, 0, 1, 2, 3, 4, 5, GREATEST}) {
            for (int length : new int[] {0, 1, 2, 9, 10}) {
                callAll(strands, Due.times(length, 1));
                callAll(strands, Due.times(length, -1));
            }
        }
        callAll(4, 3, -2, 1, 3, -2, 1, 3, -2, 1, 3);
    }

    private static void callAll(int strands, int... letters) {
        PlainBraid plain = new PlainBraid(strands);
        for (int letter : letters) {
            plain.add(letter);
        }
        BraidKnots braid = due.braid(strands, letters);
        for (int odd : ODD) {
            due.is("letter(" + odd + ")", braid.letter(odd), plain.letter(odd));
            due.is("loops(" + odd + ")", braid.loops(odd), plain.loops(odd));
            due.is("states(" + odd + ")", braid.states(odd), plain.states(odd));
            due.is("ends(" + odd + ")", braid.ends(odd), plain.ends(odd));
            due.is("linking(0, " + odd + ")", braid.linking(0, odd), plain.linking(0, odd));
            due.is("linking(" + odd + ", 1)", braid.linking(odd, 1), plain.linking(odd, 1));
            due.is("linking(" + odd + ", itself)", braid.linking(odd, odd), plain.linking(odd, odd));
            due.is("colourings(" + odd + ")", braid.colourings(odd), plain.colourings(odd));
            due.holds("bracket(" + odd + ") is small", Math.abs(braid.bracket(odd)) < 1 << 20);
            due.holds("invariant(" + odd + ") is small", Math.abs(braid.invariant(odd)) < 1 << 20);
        }
        for (int odd : ODD) {
            due.is("add(" + odd + ")", braid.add(odd), plain.add(odd));
            due.is("drop(" + odd + ")", braid.drop(odd), plain.drop(odd));
        }
        due.is("turn()", braid.turn(), plain.turn());
        due.is("mirror()", braid.mirror(), plain.mirror());
        due.is("reverse()", braid.reverse(), plain.reverse());
        due.is("writhe()", braid.writhe(), plain.writhe());
        due.is("components()", braid.components(), plain.components());
    }

    private static void objectsStandApart() {
        due.sentence("Terms: an object's word is its own");
        BraidKnots one = new BraidKnots(3);
        BraidKnots other = new BraidKnots(4);
        due.is("one.add(1)", one.add(1), 1);
        due.is("other.add(3)", other.add(3), 1);
        due.is("one.add(-2)", one.add(-2), 2);
        due.is("other.drop(0)", other.drop(0), 3);
        due.is("other.add(-1)", other.add(-1), 1);
        due.asNew("one", one, 3, 1, -2);
        due.asNew("other", other, 4, -1);
    }

    /** Ten letters are there and the calls are the dearest ones, up to the very last that is promised. */
    private static void lastCallThatIsPromised() {
        due.sentence("What it is: an object is used for at most 512 calls");
        BraidKnots braid = due.braid(3, 1, -2, 1, -2, 1, -2, 1, -2, 1, -2);
        for (int call = 11; call < MOST_CALLS; call += 3) {
            due.is("call " + call + ", turn()", braid.turn(), call / 3 % 2 == 1 ? 1 : -2);
            due.is("call " + (call + 1) + ", determinant()", braid.determinant(), 121);
            due.is("call " + (call + 2) + ", add(1)", braid.add(1), BraidKnots.FULL);
        }
        due.is("call 512, spread()", braid.spread(), 40);
    }
}
