/** Promises 15 to 18: components, ends, linking and colourings. */
public final class StrandsTest {
    private static final int LEAST = Integer.MIN_VALUE;
    private static final int GREATEST = Integer.MAX_VALUE;
    private static final Due due = new Due("StrandsTest");

    public static void main(String[] args) {
        components();
        ends();
        linking();
        linkingOfWholeComponents();
        linkingRefused();
        colourings();
        colouringsRefused();
        due.end();
    }

    private static void components() {
        due.is("no letters", new BraidKnots(4).components(), 4);
        due.is("1", due.braid(2, 1).components(), 1);
        due.is("1 1", due.braid(2, 1, 1).components(), 2);
        due.is("1 -1", due.braid(2, 1, -1).components(), 2);
        due.is("1 of 4", due.braid(4, 1).components(), 3);
        due.is("1 3", due.braid(4, 1, 3).components(), 2);
        due.is("1 2 3", due.braid(4, 1, 2, 3).components(), 1);
        due.is("1 2 1", due.braid(3, 1, 2, 1).components(), 2);
    }

    private static void endsAre(String name, BraidKnots braid, int... wanted) {
        for (int position = 0; position < wanted.length; position++) {
            due.is(name + ", ends(" + position + ")", braid.ends(position), wanted[position]);
        }
        int[] wrong = {-1, wanted.length, wanted.length + 1, LEAST, GREATEST};
        for (int position : wrong) {
            due.is(name + ", ends(" + position + ")", braid.ends(position), BraidKnots.BAD_ARG);
        }
    }

    private static void ends() {
        endsAre("no letters, 2", new BraidKnots(2), 0, 1);
        endsAre("no letters, 4", new BraidKnots(4), 0, 1, 2, 3);
        endsAre("1", due.braid(2, 1), 1, 0);
        endsAre("1 2", due.braid(3, 1, 2), 2, 0, 1);
        endsAre("2 1", due.braid(3, 2, 1), 1, 2, 0);
        endsAre("1 2 3", due.braid(4, 1, 2, 3), 3, 0, 1, 2);
        endsAre("-1 -2 3", due.braid(4, -1, -2, 3), 3, 0, 1, 2);
        endsAre("1 3", due.braid(4, 1, 3), 1, 0, 3, 2);
    }

    private static void linkingIs(String name, BraidKnots braid, int i, int j, int wanted) {
        due.is(name + ", linking(" + i + ", " + j + ")", braid.linking(i, j), wanted);
        due.is(name + ", linking(" + j + ", " + i + ")", braid.linking(j, i), wanted);
    }

    private static void linking() {
        linkingIs("no letters", new BraidKnots(4), 0, 3, 0);
        linkingIs("1 1", due.braid(2, 1, 1), 0, 1, 1);
        linkingIs("-1 -1", due.braid(2, -1, -1), 0, 1, -1);
        linkingIs("1 -1", due.braid(2, 1, -1), 0, 1, 0);
        linkingIs("ten turns", due.braid(2, 1, 1, 1, 1, 1, 1, 1, 1, 1, 1), 0, 1, 5);
        linkingIs("ten turns back", due.braid(2, -1, -1, -1, -1, -1, -1, -1, -1, -1, -1), 0, 1, -5);
        BraidKnots chain = due.braid(3, 1, 1, -2, -2);
        linkingIs("chain", chain, 0, 1, 1);
        linkingIs("chain", chain, 1, 2, -1);
        linkingIs("chain", chain, 0, 2, 0);
        // The strand from position 0 goes round the one from position 2.
        linkingIs("far", due.braid(3, 1, 2, 2, -1), 0, 2, 1);
        linkingIs("far", due.braid(3, 1, 2, 2, -1), 0, 1, 0);
        linkingIs("far", due.braid(3, 1, 2, 2, -1), 1, 2, 0);
    }

    private static void linkingOfWholeComponents() {
        // Positions 0 and 2 are one component, position 1 the other: two of three letters tell.
        BraidKnots braid = due.braid(3, 1, 2, 1);
        linkingIs("1 2 1", braid, 0, 1, 1);
        linkingIs("1 2 1", braid, 1, 2, 1);
        linkingIs("1 2 1", braid, 0, 2, BraidKnots.NONE);
        // Letters within one component do not tell.
        BraidKnots pairs = due.braid(4, 1, 3, 3, 3, 2, 2);
        linkingIs("pairs", pairs, 0, 2, 1);
        linkingIs("pairs", pairs, 0, 3, 1);
        linkingIs("pairs", pairs, 1, 2, 1);
        linkingIs("pairs", pairs, 2, 3, BraidKnots.NONE);
    }

    private static void linkingRefused() {
        BraidKnots braid = due.braid(3, 1, 2, 1);
        int[] wrong = {-1, 3, 4, LEAST, GREATEST};
        for (int position : wrong) {
            linkingIs("1 2 1", braid, position, 0, BraidKnots.BAD_ARG);
            linkingIs("1 2 1", braid, position, 2, BraidKnots.BAD_ARG);
            linkingIs("1 2 1", braid, position, position, BraidKnots.BAD_ARG);
        }
        for (int position = 0; position < 3; position++) {
            linkingIs("a strand and itself", braid, position, position, BraidKnots.NONE);
        }
        linkingIs("a strand and itself, no letters", new BraidKnots(2), 1, 1, BraidKnots.NONE);
        linkingIs("three for two strands", due.braid(2, 1, 1), 2, 0, BraidKnots.BAD_ARG);
    }

    private static void colouringsAre(String name, BraidKnots braid, int two, int three, int five, int seven) {
        due.is(name + ", colourings(2)", braid.colourings(2), two);
        due.is(name + ", colourings(3)", braid.colourings(3), three);
        due.is(name + ", colourings(5)", braid.colourings(5), five);
        due.is(name + ", colourings(7)", braid.colourings(7), seven);
    }

    private static void colourings() {
        colouringsAre("no letters, 2", new BraidKnots(2), 4, 9, 25, 49);
        colouringsAre("no letters, 3", new BraidKnots(3), 8, 27, 125, 343);
        colouringsAre("no letters, 4", new BraidKnots(4), 16, 81, 625, 2401);
        colouringsAre("1", due.braid(2, 1), 2, 3, 5, 7);
        colouringsAre("1 1", due.braid(2, 1, 1), 4, 3, 5, 7);
        colouringsAre("1 -1", due.braid(2, 1, -1), 4, 9, 25, 49);
        colouringsAre("1 1 1", due.braid(2, 1, 1, 1), 2, 9, 5, 7);
        colouringsAre("-1 -1 -1", due.braid(2, -1, -1, -1), 2, 9, 5, 7);
        colouringsAre("five turns", due.braid(2, 1, 1, 1, 1, 1), 2, 3, 25, 7);
        colouringsAre("seven turns", due.braid(2, 1, 1, 1, 1, 1, 1, 1), 2, 3, 5, 49);
        colouringsAre("1 -2 1 -2", due.braid(3, 1, -2, 1, -2), 2, 3, 25, 7);
        colouringsAre("1 2 1 2", due.braid(3, 1, 2, 1, 2), 2, 9, 5, 7);
        colouringsAre("pairs of three turns", due.braid(4, 1, 1, 1, 3, 3, 3), 4, 81, 25, 49);
    }

    private static void colouringsRefused() {
        BraidKnots braid = due.braid(3, 1, 2);
        int[] wrong = {LEAST, -7, -3, -2, -1, 0, 1, 4, 6, 8, 9, 10, 11, 13, GREATEST};
        for (int p : wrong) {
            due.is("colourings(" + p + ")", braid.colourings(p), BraidKnots.BAD_ARG);
        }
    }
}
