/** Promises 1 to 8: the word, what changes it, and the writhe. */
public final class WordTest {
    private static final int LEAST = Integer.MIN_VALUE;
    private static final int GREATEST = Integer.MAX_VALUE;
    private static final Due due = new Due("WordTest");

    public static void main(String[] args) {
        newObject();
        add();
        addTestsTheLetterBeforeTheRoom();
        drop();
        turn();
        mirror();
        reverse();
        letter();
        writhe();
        due.end();
    }

    private static void newObject() {
        int[] asked = {LEAST, -1, 0, 1, 2, 3, 4, 5, 9, GREATEST};
        int[] taken = {2, 2, 2, 2, 2, 3, 4, 4, 4, 4};
        for (int t = 0; t < asked.length; t++) {
            String made = "new BraidKnots(" + asked[t] + "), ";
            BraidKnots braid = new BraidKnots(asked[t]);
            due.word(made, braid);
            due.is(made + "components()", braid.components(), taken[t]);
            due.is(made + "ends of the last", braid.ends(taken[t] - 1), taken[t] - 1);
            due.is(made + "ends behind the last", braid.ends(taken[t]), BraidKnots.BAD_ARG);
            due.is(made + "add(n)", braid.add(taken[t]), BraidKnots.BAD_ARG);
            due.is(made + "add(n - 1)", braid.add(taken[t] - 1), 1);
        }
    }

    private static void add() {
        for (int n = 2; n <= 4; n++) {
            int[] wrong = {0, n, -n, n + 1, -n - 1, GREATEST, LEAST, LEAST + 1};
            BraidKnots braid = new BraidKnots(n);
            for (int letter : wrong) {
                due.is(n + " strands, add(" + letter + ")", braid.add(letter), BraidKnots.BAD_ARG);
            }
            due.word("after refused letters", braid);
            for (int i = 1; i < n; i++) {
                due.is(n + " strands, add(" + i + ")", braid.add(i), 2 * i - 1);
                due.is(n + " strands, add(-" + i + ")", braid.add(-i), 2 * i);
            }
        }
        due.word("three letters", due.braid(4, 3, -1, 2), 3, -1, 2);
    }

    private static void addTestsTheLetterBeforeTheRoom() {
        BraidKnots full = due.braid(3, 1, 2, -1, -2, 1, 1, 2, 2, -1, 2);
        due.is("add(1), full", full.add(1), BraidKnots.FULL);
        due.is("add(-2), full", full.add(-2), BraidKnots.FULL);
        due.is("add(3), full", full.add(3), BraidKnots.BAD_ARG);
        due.is("add(0), full", full.add(0), BraidKnots.BAD_ARG);
        due.word("full", full, 1, 2, -1, -2, 1, 1, 2, 2, -1, 2);
        due.is("drop(9)", full.drop(9), 2);
        due.is("add(-2) into the room that was made", full.add(-2), 10);
        due.word("full again", full, 1, 2, -1, -2, 1, 1, 2, 2, -1, -2);
    }

    private static void drop() {
        due.is("drop(0), no letters", new BraidKnots(3).drop(0), BraidKnots.NONE);
        BraidKnots braid = due.braid(4, 1, -2, 3, -1);
        int[] wrong = {-1, 4, 10, LEAST, GREATEST};
        for (int k : wrong) {
            due.is("drop(" + k + ")", braid.drop(k), BraidKnots.NONE);
        }
        due.word("after refused drops", braid, 1, -2, 3, -1);
        due.is("drop in the midst", braid.drop(1), -2);
        due.word("midst dropped", braid, 1, 3, -1);
        due.is("drop the last", braid.drop(2), -1);
        due.word("last dropped", braid, 1, 3);
        due.is("drop the first", braid.drop(0), 1);
        due.word("first dropped", braid, 3);
        due.is("drop behind the end", braid.drop(1), BraidKnots.NONE);
        due.is("drop the only one", braid.drop(0), 3);
        due.word("all dropped", braid);
        due.is("drop once more", braid.drop(0), BraidKnots.NONE);
    }

    private static void turn() {
        BraidKnots empty = new BraidKnots(2);
        due.is("turn(), no letters", empty.turn(), BraidKnots.NONE);
        due.word("turned without letters", empty);
        BraidKnots one = due.braid(2, -1);
        due.is("turn(), one letter", one.turn(), -1);
        due.word("one letter turned", one, -1);
        BraidKnots braid = due.braid(4, 1, -2, 3);
        due.is("turn()", braid.turn(), 1);
        due.word("turned", braid, -2, 3, 1);
        due.is("turn() again", braid.turn(), -2);
        due.word("turned again", braid, 3, 1, -2);
        BraidKnots full = due.braid(3, 1, 2, -1, -2, 1, 1, 2, 2, -1, 2);
        due.is("turn(), full", full.turn(), 1);
        due.word("full turned", full, 2, -1, -2, 1, 1, 2, 2, -1, 2, 1);
    }

    private static void mirror() {
        due.is("mirror(), no letters", new BraidKnots(2).mirror(), 0);
        BraidKnots braid = due.braid(4, 1, -2, 3, 3);
        due.is("mirror()", braid.mirror(), 4);
        due.word("mirrored", braid, -1, 2, -3, -3);
        due.is("mirror() again", braid.mirror(), 4);
        due.word("mirrored twice", braid, 1, -2, 3, 3);
        BraidKnots full = due.braid(3, 1, 2, -1, -2, 1, 1, 2, 2, -1, 2);
        due.is("mirror(), full", full.mirror(), 10);
        due.word("full mirrored", full, -1, -2, 1, 2, -1, -1, -2, -2, 1, -2);
    }

    private static void reverse() {
        due.is("reverse(), no letters", new BraidKnots(2).reverse(), 0);
        BraidKnots one = due.braid(2, -1);
        due.is("reverse(), one letter", one.reverse(), 1);
        due.word("one letter reversed", one, -1);
        BraidKnots even = due.braid(4, 1, -2, 3, 3);
        due.is("reverse(), four letters", even.reverse(), 4);
        due.word("four letters reversed", even, 3, 3, -2, 1);
        BraidKnots odd = due.braid(4, 1, -2, 3, -1, 2);
        due.is("reverse(), five letters", odd.reverse(), 5);
        due.word("five letters reversed", odd, 2, -1, 3, -2, 1);
        BraidKnots full = due.braid(3, 1, 2, -1, -2, 1, 1, 2, 2, -1, 2);
        due.is("reverse(), full", full.reverse(), 10);
        due.word("full reversed", full, 2, -1, 2, 2, 1, 1, -2, -1, 2, 1);
    }

    private static void letter() {
        due.is("letter(0), no letters", new BraidKnots(4).letter(0), BraidKnots.NONE);
        BraidKnots braid = due.braid(4, -3, 2);
        due.is("letter(0)", braid.letter(0), -3);
        due.is("letter(1)", braid.letter(1), 2);
        int[] wrong = {-1, 2, 9, 10, LEAST, GREATEST};
        for (int k : wrong) {
            due.is("letter(" + k + ")", braid.letter(k), BraidKnots.NONE);
        }
    }

    private static void writhe() {
        due.is("writhe(), no letters", new BraidKnots(3).writhe(), 0);
        due.is("writhe() counts signs, not letters", due.braid(4, 3, -2, 3, 2).writhe(), 2);
        due.is("writhe() below 0", due.braid(4, -3, -2, 1, -3).writhe(), -2);
        due.is("writhe(), ten letters", due.braid(2, 1, 1, 1, 1, 1, 1, 1, 1, 1, 1).writhe(), 10);
    }
}
