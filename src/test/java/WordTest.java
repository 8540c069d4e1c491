/** Promises 1 to 8: the word, what changes it, and the writhe; each sentence has a test of its own. */
public final class WordTest {
    private static final int LEAST = Integer.MIN_VALUE;
    private static final int GREATEST = Integer.MAX_VALUE;
    private static final int[] TEN = {1, 2, -1, -2, 1, 1, 2, 2, -1, 2};
    private static final Due due = new Due("WordTest");

    public static void main(String[] args) {
        strandsInRange();
        strandsBelowTwo();
        strandsAboveFour();
        newWordIsEmpty();
        addTakesEachLetter();
        addRefusesWrongLetters();
        addUpToTenAndNoMore();
        addTestsTheLetterBeforeTheRoom();
        addAfterFull();
        dropInTheMidstAndAtTheEnds();
        dropWithNoSuchLetter();
        dropWithoutLetters();
        dropFromAFullWord();
        dropUntilEmpty();
        turnTakesTheFirstToTheEnd();
        turnAllTheWayRound();
        turnWithoutLetters();
        turnWithOneLetter();
        turnWithAFullWord();
        mirrorNegatesEveryLetter();
        mirrorWithoutLetters();
        mirrorWithOneLetter();
        mirrorWithAFullWord();
        reverseEvenAndOdd();
        reverseWithoutLetters();
        reverseWithOneLetter();
        reverseWithAFullWord();
        letterOfEachPlace();
        letterWithNoSuchPlace();
        letterWithoutLetters();
        letterThatWasDropped();
        writheAddsSigns();
        writheWithoutLetters();
        writheOfFullWords();
        due.end();
    }

    /** That there are n strands shows in the letters, the positions and the components. */
    private static void strandsAre(int asked, int n) {
        String made = "new BraidKnots(" + asked + "), ";
        BraidKnots braid = new BraidKnots(asked);
        due.is(made + "components()", braid.components(), n);
        due.is(made + "loops(0)", braid.loops(0), n);
        due.is(made + "colourings(2)", braid.colourings(2), 1 << n);
        due.is(made + "ends(n - 1)", braid.ends(n - 1), n - 1);
        due.is(made + "ends(n)", braid.ends(n), BraidKnots.BAD_ARG);
        due.is(made + "linking(0, n - 1)", braid.linking(0, n - 1), 0);
        due.is(made + "linking(0, n)", braid.linking(0, n), BraidKnots.BAD_ARG);
        due.is(made + "add(n)", braid.add(n), BraidKnots.BAD_ARG);
        due.is(made + "add(-n)", braid.add(-n), BraidKnots.BAD_ARG);
        due.is(made + "add(n - 1)", braid.add(n - 1), 1);
        due.is(made + "add(1 - n)", braid.add(1 - n), 2);
    }

    private static void strandsInRange() {
        due.sentence("1: n is strands");
        strandsAre(2, 2);
        strandsAre(3, 3);
        strandsAre(4, 4);
    }

    private static void strandsBelowTwo() {
        due.sentence("1: below 2 becomes 2");
        for (int asked : new int[] {1, 0, -1, -2, -4, LEAST + 1, LEAST}) {
            strandsAre(asked, 2);
        }
    }

    private static void strandsAboveFour() {
        due.sentence("1: above 4 becomes 4");
        for (int asked : new int[] {5, 6, 9, 1000, GREATEST - 1, GREATEST}) {
            strandsAre(asked, 4);
        }
    }

    private static void newWordIsEmpty() {
        due.sentence("1: the word has no letters");
        for (int asked : new int[] {LEAST, 1, 2, 3, 4, 5, GREATEST}) {
            due.word("new BraidKnots(" + asked + ")", new BraidKnots(asked));
            due.is("mirror() counts no letter", new BraidKnots(asked).mirror(), 0);
            due.is("the first add", new BraidKnots(asked).add(1), 1);
        }
    }

    private static void addTakesEachLetter() {
        due.sentence("2: puts a letter at the end of the word; the number of letters");
        for (int n = 2; n <= 4; n++) {
            BraidKnots braid = new BraidKnots(n);
            for (int i = 1; i < n; i++) {
                due.is(n + " strands, add(" + i + ")", braid.add(i), 2 * i - 1);
                due.is(n + " strands, add(-" + i + ")", braid.add(-i), 2 * i);
            }
        }
        due.word("three letters", due.braid(4, 3, -1, 2), 3, -1, 2);
    }

    private static void addRefusesWrongLetters() {
        due.sentence("2: letter is not i or -i with i from 1 to n - 1 answers BAD_ARG");
        for (int n = 2; n <= 4; n++) {
            BraidKnots braid = due.braid(n, 1);
            for (int letter : new int[] {0, n, -n, n + 1, -n - 1, 10, -10, GREATEST, LEAST, LEAST + 1}) {
                due.is(n + " strands, add(" + letter + ")", braid.add(letter), BraidKnots.BAD_ARG);
            }
            due.word("after refused letters", braid, 1);
        }
    }

    private static void addUpToTenAndNoMore() {
        due.sentence("2: FULL");
        for (int n = 2; n <= 4; n++) {
            BraidKnots full = due.braid(n, Due.times(9, 1));
            due.is(n + " strands, the tenth letter", full.add(-1), 10);
            due.is(n + " strands, an eleventh letter", full.add(1), BraidKnots.FULL);
            due.is(n + " strands, and again", full.add(1 - n), BraidKnots.FULL);
            due.word("full", full, 1, 1, 1, 1, 1, 1, 1, 1, 1, -1);
        }
    }

    private static void addTestsTheLetterBeforeTheRoom() {
        due.sentence("2: tested in this order: BAD_ARG; FULL");
        BraidKnots full = due.braid(3, TEN);
        for (int letter : new int[] {0, 3, -3, 4, LEAST, GREATEST}) {
            due.is("add(" + letter + "), full", full.add(letter), BraidKnots.BAD_ARG);
        }
        for (int letter : new int[] {1, -1, 2, -2}) {
            due.is("add(" + letter + "), full", full.add(letter), BraidKnots.FULL);
        }
        due.word("full", full, TEN);
    }

    private static void addAfterFull() {
        due.sentence("2: FULL no more when a letter was dropped");
        BraidKnots full = due.braid(3, TEN);
        due.is("drop(9)", full.drop(9), 2);
        due.is("add(-2) into the room that was made", full.add(-2), 10);
        due.is("add(1), full again", full.add(1), BraidKnots.FULL);
        due.word("full again", full, 1, 2, -1, -2, 1, 1, 2, 2, -1, -2);
    }

    private static void dropInTheMidstAndAtTheEnds() {
        due.sentence("3: takes the letter with k letters before it out; the letter");
        BraidKnots braid = due.braid(4, 1, -2, 3, -1);
        due.is("drop in the midst", braid.drop(1), -2);
        due.word("midst dropped", braid, 1, 3, -1);
        due.is("drop the last", braid.drop(2), -1);
        due.word("last dropped", braid, 1, 3);
        due.is("drop the first", braid.drop(0), 1);
        due.word("first dropped", braid, 3);
    }

    private static void dropWithNoSuchLetter() {
        due.sentence("3: NONE if there is none");
        BraidKnots braid = due.braid(4, 1, -2, 3, -1);
        for (int k : new int[] {-1, -2, 4, 5, 9, 10, 11, LEAST, GREATEST}) {
            due.is("drop(" + k + ")", braid.drop(k), BraidKnots.NONE);
        }
        due.word("after refused drops", braid, 1, -2, 3, -1);
    }

    private static void dropWithoutLetters() {
        due.sentence("3: NONE if there is none, without letters");
        for (int k : new int[] {-1, 0, 1, 9, 10, LEAST, GREATEST}) {
            due.is("drop(" + k + ")", new BraidKnots(3).drop(k), BraidKnots.NONE);
        }
    }

    private static void dropFromAFullWord() {
        due.sentence("3: from a full word");
        due.is("drop(10), full", due.braid(3, TEN).drop(10), BraidKnots.NONE);
        BraidKnots first = due.braid(3, TEN);
        due.is("drop(0), full", first.drop(0), 1);
        due.word("first of ten dropped", first, 2, -1, -2, 1, 1, 2, 2, -1, 2);
        due.is("drop(9), nine letters", first.drop(9), BraidKnots.NONE);
        BraidKnots last = due.braid(3, TEN);
        due.is("drop(9), full", last.drop(9), 2);
        due.word("last of ten dropped", last, 1, 2, -1, -2, 1, 1, 2, 2, -1);
    }

    private static void dropUntilEmpty() {
        due.sentence("3: until the word is empty");
        BraidKnots braid = due.braid(4, 3, -2);
        due.is("drop the last", braid.drop(1), -2);
        due.is("drop the only one", braid.drop(0), 3);
        due.word("all dropped", braid);
        due.is("drop once more", braid.drop(0), BraidKnots.NONE);
        due.is("add to the emptied word", braid.add(-1), 1);
    }

    private static void turnTakesTheFirstToTheEnd() {
        due.sentence("4: the first letter becomes the last one; that letter");
        BraidKnots braid = due.braid(4, 1, -2, 3);
        due.is("turn()", braid.turn(), 1);
        due.word("turned", braid, -2, 3, 1);
        due.is("turn() again", braid.turn(), -2);
        due.word("turned again", braid, 3, 1, -2);
    }

    private static void turnAllTheWayRound() {
        due.sentence("4: as many turns as letters bring the word back");
        BraidKnots braid = due.braid(3, TEN);
        for (int letter : TEN) {
            due.is("turn()", braid.turn(), letter);
        }
        due.word("turned ten times", braid, TEN);
    }

    private static void turnWithoutLetters() {
        due.sentence("4: NONE if there is no letter");
        BraidKnots empty = new BraidKnots(2);
        due.is("turn(), no letters", empty.turn(), BraidKnots.NONE);
        due.word("turned without letters", empty);
        BraidKnots emptied = due.braid(2, 1);
        due.is("drop(0)", emptied.drop(0), 1);
        due.is("turn(), emptied", emptied.turn(), BraidKnots.NONE);
        due.word("turned when emptied", emptied);
    }

    private static void turnWithOneLetter() {
        due.sentence("4: the first letter is the last one too");
        BraidKnots one = due.braid(2, -1);
        due.is("turn(), one letter", one.turn(), -1);
        due.word("one letter turned", one, -1);
    }

    private static void turnWithAFullWord() {
        due.sentence("4: with a full word");
        BraidKnots full = due.braid(3, TEN);
        due.is("turn(), full", full.turn(), 1);
        due.word("full turned", full, 2, -1, -2, 1, 1, 2, 2, -1, 2, 1);
        due.is("add(1), still full", full.add(1), BraidKnots.FULL);
    }

    private static void mirrorNegatesEveryLetter() {
        due.sentence("5: every letter becomes its negative; the number of letters");
        BraidKnots braid = due.braid(4, 1, -2, 3, 3);
        due.is("mirror()", braid.mirror(), 4);
        due.word("mirrored", braid, -1, 2, -3, -3);
        due.is("mirror() again", braid.mirror(), 4);
        due.word("mirrored twice", braid, 1, -2, 3, 3);
    }

    private static void mirrorWithoutLetters() {
        due.sentence("5: without letters");
        BraidKnots empty = new BraidKnots(2);
        due.is("mirror(), no letters", empty.mirror(), 0);
        due.word("mirrored without letters", empty);
    }

    private static void mirrorWithOneLetter() {
        due.sentence("5: with one letter");
        BraidKnots one = due.braid(4, -3);
        due.is("mirror(), one letter", one.mirror(), 1);
        due.word("one letter mirrored", one, 3);
    }

    private static void mirrorWithAFullWord() {
        due.sentence("5: with a full word");
        BraidKnots full = due.braid(3, TEN);
        due.is("mirror(), full", full.mirror(), 10);
        due.word("full mirrored", full, -1, -2, 1, 2, -1, -1, -2, -2, 1, -2);
    }

    private static void reverseEvenAndOdd() {
        due.sentence("6: the last letter becomes the first one, and so on; the number of letters");
        BraidKnots even = due.braid(4, 1, -2, 3, 3);
        due.is("reverse(), four letters", even.reverse(), 4);
        due.word("four letters reversed", even, 3, 3, -2, 1);
        BraidKnots odd = due.braid(4, 1, -2, 3, -1, 2);
        due.is("reverse(), five letters", odd.reverse(), 5);
        due.word("five letters reversed", odd, 2, -1, 3, -2, 1);
        BraidKnots two = due.braid(4, 3, -1);
        due.is("reverse(), two letters", two.reverse(), 2);
        due.word("two letters reversed", two, -1, 3);
    }

    private static void reverseWithoutLetters() {
        due.sentence("6: without letters");
        BraidKnots empty = new BraidKnots(2);
        due.is("reverse(), no letters", empty.reverse(), 0);
        due.word("reversed without letters", empty);
    }

    private static void reverseWithOneLetter() {
        due.sentence("6: with one letter");
        BraidKnots one = due.braid(2, -1);
        due.is("reverse(), one letter", one.reverse(), 1);
        due.word("one letter reversed", one, -1);
    }

    private static void reverseWithAFullWord() {
        due.sentence("6: with a full word");
        BraidKnots full = due.braid(3, TEN);
        due.is("reverse(), full", full.reverse(), 10);
        due.word("full reversed", full, 2, -1, 2, 2, 1, 1, -2, -1, 2, 1);
    }

    private static void letterOfEachPlace() {
        due.sentence("7: the letter with k letters before it");
        BraidKnots full = due.braid(3, TEN);
        for (int k = 0; k < 10; k++) {
            due.is("letter(" + k + ")", full.letter(k), TEN[k]);
        }
    }

    private static void letterWithNoSuchPlace() {
        due.sentence("7: NONE if there is none");
        BraidKnots braid = due.braid(4, -3, 2);
        for (int k : new int[] {-1, -2, 2, 3, 9, 10, 11, LEAST, GREATEST}) {
            due.is("letter(" + k + "), two letters", braid.letter(k), BraidKnots.NONE);
        }
        BraidKnots full = due.braid(3, TEN);
        for (int k : new int[] {-1, 10, 11, LEAST, GREATEST}) {
            due.is("letter(" + k + "), full", full.letter(k), BraidKnots.NONE);
        }
    }

    private static void letterWithoutLetters() {
        due.sentence("7: NONE if there is none, without letters");
        for (int k : new int[] {-1, 0, 1, 9, 10, LEAST, GREATEST}) {
            due.is("letter(" + k + ")", new BraidKnots(4).letter(k), BraidKnots.NONE);
        }
    }

    private static void letterThatWasDropped() {
        due.sentence("7: NONE where a letter stood that has moved up");
        BraidKnots braid = due.braid(4, -3, 2);
        due.is("drop(0)", braid.drop(0), -3);
        due.is("letter(0)", braid.letter(0), 2);
        due.is("letter(1)", braid.letter(1), BraidKnots.NONE);
    }

    private static void writheAddsSigns() {
        due.sentence("8: the sum of the signs of all letters");
        due.is("signs, not letters", due.braid(4, 3, -2, 3, 2).writhe(), 2);
        due.is("below 0", due.braid(4, -3, -2, 1, -3).writhe(), -2);
        due.is("1 -1", due.braid(2, 1, -1).writhe(), 0);
        due.is("-3", due.braid(4, -3).writhe(), -1);
        BraidKnots braid = due.braid(3, TEN);
        due.is("ten letters", braid.writhe(), 4);
        due.is("mirror()", braid.mirror(), 10);
        due.is("ten letters mirrored", braid.writhe(), -4);
    }

    private static void writheWithoutLetters() {
        due.sentence("8: without letters");
        due.is("new", new BraidKnots(3).writhe(), 0);
        BraidKnots emptied = due.braid(3, -2);
        due.is("drop(0)", emptied.drop(0), -2);
        due.is("emptied", emptied.writhe(), 0);
    }

    private static void writheOfFullWords() {
        due.sentence("8: the greatest and the least");
        due.is("ten letters 1", due.braid(2, Due.times(10, 1)).writhe(), 10);
        due.is("ten letters -3", due.braid(4, Due.times(10, -3)).writhe(), -10);
    }
}
