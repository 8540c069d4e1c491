/** Promises 15 to 18: components, ends, linking and colourings. */
public final class StrandsTest {
    private static final int LEAST = Integer.MIN_VALUE;
    private static final int GREATEST = Integer.MAX_VALUE;
    private static final int[] TEN = {1, 2, 3, 1, 2, 3, 1, 2, 3, 1};
    private static final Due due = new Due("StrandsTest");

    public static void main(String[] args) {
        componentsOfSmallBraids();
        componentsWithoutLetters();
        componentsJoinedAllTheWayRound();
        componentsOfFullWords();
        endsOfSmallBraids();
        endsWithoutLetters();
        endsOfFullWords();
        endsWithNoSuchPosition();
        linkingOfSmallBraids();
        linkingWithoutLetters();
        linkingBelowNone();
        linkingOfFullWords();
        linkingOfStrandsThatMeetFarOff();
        linkingOfWholeComponents();
        linkingWithNoSuchPosition();
        linkingInTheSameComponent();
        linkingOfAStrandWithItself();
        linkingTestsThePositionsFirst();
        colouringsOfSmallBraids();
        colouringsWithoutLetters();
        colouringsWrapRound();
        colouringsOfFullWords();
        colouringsRefused();
        due.end();
    }

    private static void componentsOfSmallBraids() {
        due.sentence("15: the number of components");
        due.is("1 1", due.braid(2, 1, 1).components(), 2);
        due.is("1 -1", due.braid(2, 1, -1).components(), 2);
        due.is("1 of 4", due.braid(4, 1).components(), 3);
        due.is("1 3", due.braid(4, 1, 3).components(), 2);
        due.is("1 2 1", due.braid(3, 1, 2, 1).components(), 2);
    }

    private static void componentsWithoutLetters() {
        due.sentence("15: without letters each strand is joined to itself");
        for (int n = 2; n <= 4; n++) {
            due.is(n + " strands", new BraidKnots(n).components(), n);
        }
    }

    private static void componentsJoinedAllTheWayRound() {
        due.sentence("15: strands that are joined, one after the other, make one component");
        due.is("1", due.braid(2, 1).components(), 1);
        due.is("1 2", due.braid(3, 1, 2).components(), 1);
        due.is("2 1", due.braid(3, 2, 1).components(), 1);
        due.is("1 2 3", due.braid(4, 1, 2, 3).components(), 1);
        due.is("3 2 1", due.braid(4, 3, 2, 1).components(), 1);
        due.is("2 1 3", due.braid(4, 2, 1, 3).components(), 1);
    }

    private static void componentsOfFullWords() {
        due.sentence("15: of full words");
        due.is("ten turns of two strands", due.braid(2, Due.times(10, 1)).components(), 2);
        due.is("ten turns of four strands", due.braid(4, Due.times(10, -2)).components(), 4);
        due.is("three times round and one letter", due.braid(4, TEN).components(), 2);
    }

    private static void endsAre(String name, BraidKnots braid, int... wanted) {
        for (int position = 0; position < wanted.length; position++) {
            due.is(name + ", ends(" + position + ")", braid.ends(position), wanted[position]);
        }
    }

    private static void endsOfSmallBraids() {
        due.sentence("16: the position at the bottom of the strand that is in this position at the top");
        endsAre("1", due.braid(2, 1), 1, 0);
        endsAre("1 2", due.braid(3, 1, 2), 2, 0, 1);
        endsAre("2 1", due.braid(3, 2, 1), 1, 2, 0);
        endsAre("1 2 3", due.braid(4, 1, 2, 3), 3, 0, 1, 2);
        endsAre("-1 -2 3", due.braid(4, -1, -2, 3), 3, 0, 1, 2);
        endsAre("1 3", due.braid(4, 1, 3), 1, 0, 3, 2);
        endsAre("1 1", due.braid(2, 1, 1), 0, 1);
    }

    private static void endsWithoutLetters() {
        due.sentence("16: without letters each strand ends where it begins");
        endsAre("2 strands", new BraidKnots(2), 0, 1);
        endsAre("3 strands", new BraidKnots(3), 0, 1, 2);
        endsAre("4 strands", new BraidKnots(4), 0, 1, 2, 3);
    }

    private static void endsOfFullWords() {
        due.sentence("16: of full words");
        // 1 2 3 takes position 0 to 3 and each other one a position to the left.
        endsAre("three times round and one letter", due.braid(4, TEN), 0, 2, 3, 1);
        endsAre("ten turns", due.braid(2, Due.times(10, -1)), 0, 1);
    }

    private static void endsWithNoSuchPosition() {
        due.sentence("16: BAD_ARG if position is not 0 to n - 1");
        for (int n = 2; n <= 4; n++) {
            BraidKnots empty = new BraidKnots(n);
            BraidKnots full = due.braid(n, Due.times(10, n - 1));
            for (int position : new int[] {-1, -2, n, n + 1, 10, LEAST, GREATEST}) {
                due.is(n + " strands, ends(" + position + ")", empty.ends(position), BraidKnots.BAD_ARG);
                due.is(n + " strands, full, ends(" + position + ")", full.ends(position), BraidKnots.BAD_ARG);
            }
        }
    }

    private static void linkingIs(String name, BraidKnots braid, int i, int j, int wanted) {
        due.is(name + ", linking(" + i + ", " + j + ")", braid.linking(i, j), wanted);
        due.is(name + ", linking(" + j + ", " + i + ")", braid.linking(j, i), wanted);
    }

    private static void linkingOfSmallBraids() {
        due.sentence("17: half the sum of the signs of the letters at which they change places");
        linkingIs("1 1", due.braid(2, 1, 1), 0, 1, 1);
        linkingIs("1 -1", due.braid(2, 1, -1), 0, 1, 0);
        BraidKnots chain = due.braid(3, 1, 1, -2, -2);
        linkingIs("chain", chain, 0, 1, 1);
        linkingIs("chain", chain, 1, 2, -1);
        linkingIs("chain", chain, 0, 2, 0);
    }

    private static void linkingWithoutLetters() {
        due.sentence("17: without letters");
        for (int i = 0; i < 4; i++) {
            for (int j = 0; j < i; j++) {
                linkingIs("no letters", new BraidKnots(4), i, j, 0);
            }
        }
    }

    private static void linkingBelowNone() {
        due.sentence("17: half a sum that is less than 0");
        linkingIs("-1 -1", due.braid(2, -1, -1), 0, 1, -1);
        linkingIs("-3 six times", due.braid(4, Due.times(6, -3)), 2, 3, -3);
    }

    private static void linkingOfFullWords() {
        due.sentence("17: the greatest and the least, of full words");
        linkingIs("ten turns", due.braid(2, Due.times(10, 1)), 0, 1, 5);
        linkingIs("ten turns back", due.braid(4, Due.times(10, -2)), 1, 2, -5);
        // The strand from position 0 meets the others three times going right, three times coming back.
        BraidKnots round = due.braid(4, TEN);
        linkingIs("three times round", round, 0, 1, 3);
        linkingIs("three times round", round, 0, 2, 3);
        linkingIs("three times round", round, 0, 3, 3);
    }

    private static void linkingOfStrandsThatMeetFarOff() {
        due.sentence("17: the strands count, not the positions in which they change places");
        // The strand from position 0 goes round the one from position 2.
        linkingIs("far", due.braid(3, 1, 2, 2, -1), 0, 2, 1);
        linkingIs("far", due.braid(3, 1, 2, 2, -1), 0, 1, 0);
        linkingIs("far", due.braid(3, 1, 2, 2, -1), 1, 2, 0);
    }

    private static void linkingOfWholeComponents() {
        due.sentence("17: a strand of the one and a strand of the other");
        // Positions 0 and 2 are one component, position 1 the other: two of three letters tell.
        BraidKnots braid = due.braid(3, 1, 2, 1);
        linkingIs("1 2 1", braid, 0, 1, 1);
        linkingIs("1 2 1", braid, 1, 2, 1);
        // Letters within one component do not tell.
        BraidKnots pairs = due.braid(4, 1, 3, 3, 3, 2, 2);
        linkingIs("pairs", pairs, 0, 2, 1);
        linkingIs("pairs", pairs, 0, 3, 1);
        linkingIs("pairs", pairs, 1, 2, 1);
        linkingIs("pairs", pairs, 1, 3, 1);
    }

    private static void linkingWithNoSuchPosition() {
        due.sentence("17: i or j not 0 to n - 1 answers BAD_ARG");
        for (int n = 2; n <= 4; n++) {
            BraidKnots braid = due.braid(n, 1, 1);
            for (int wrong : new int[] {-1, -2, n, n + 1, 10, LEAST, GREATEST}) {
                for (int right = 0; right < n; right++) {
                    linkingIs(n + " strands", braid, wrong, right, BraidKnots.BAD_ARG);
                }
            }
            linkingIs(n + " strands, both wrong", braid, -1, n, BraidKnots.BAD_ARG);
        }
    }

    private static void linkingInTheSameComponent() {
        due.sentence("17: they are in the same component answers NONE");
        linkingIs("1", due.braid(2, 1), 0, 1, BraidKnots.NONE);
        linkingIs("1 2 1", due.braid(3, 1, 2, 1), 0, 2, BraidKnots.NONE);
        linkingIs("pairs", due.braid(4, 1, 3, 3, 3, 2, 2), 0, 1, BraidKnots.NONE);
        linkingIs("pairs", due.braid(4, 1, 3, 3, 3, 2, 2), 2, 3, BraidKnots.NONE);
        for (int i = 0; i < 4; i++) {
            for (int j = 0; j < 4; j++) {
                linkingIs("1 2 3", due.braid(4, 1, 2, 3), i, j, BraidKnots.NONE);
                linkingIs("2 1 3", due.braid(4, 2, 1, 3), i, j, BraidKnots.NONE);
            }
        }
        linkingIs("three times round", due.braid(4, TEN), 1, 3, BraidKnots.NONE);
    }

    private static void linkingOfAStrandWithItself() {
        due.sentence("17: a strand is in the same component as itself");
        for (int position = 0; position < 4; position++) {
            linkingIs("no letters", new BraidKnots(4), position, position, BraidKnots.NONE);
            linkingIs("1 1 3 3", due.braid(4, 1, 1, 3, 3), position, position, BraidKnots.NONE);
        }
    }

    private static void linkingTestsThePositionsFirst() {
        due.sentence("17: tested in this order: BAD_ARG; NONE");
        BraidKnots knot = due.braid(3, 1, 2);
        for (int wrong : new int[] {-1, 3, 4, LEAST, GREATEST}) {
            linkingIs("the same wrong position twice", knot, wrong, wrong, BraidKnots.BAD_ARG);
            linkingIs("one component, one wrong position", knot, 0, wrong, BraidKnots.BAD_ARG);
        }
    }

    private static void colouringsAre(String name, BraidKnots braid, int two, int three, int five, int seven) {
        due.is(name + ", colourings(2)", braid.colourings(2), two);
        due.is(name + ", colourings(3)", braid.colourings(3), three);
        due.is(name + ", colourings(5)", braid.colourings(5), five);
        due.is(name + ", colourings(7)", braid.colourings(7), seven);
    }

    private static void colouringsOfSmallBraids() {
        due.sentence("18: the number of colourings modulo p");
        colouringsAre("1", due.braid(2, 1), 2, 3, 5, 7);
        colouringsAre("1 1", due.braid(2, 1, 1), 4, 3, 5, 7);
        colouringsAre("1 -1", due.braid(2, 1, -1), 4, 9, 25, 49);
        colouringsAre("1 -2 1 -2", due.braid(3, 1, -2, 1, -2), 2, 3, 25, 7);
        colouringsAre("1 2 1 2", due.braid(3, 1, 2, 1, 2), 2, 9, 5, 7);
        colouringsAre("pairs of three turns", due.braid(4, 1, 1, 1, 3, 3, 3), 4, 81, 25, 49);
    }

    private static void colouringsWithoutLetters() {
        due.sentence("18: without letters any numbers do");
        colouringsAre("2 strands", new BraidKnots(2), 4, 9, 25, 49);
        colouringsAre("3 strands", new BraidKnots(3), 8, 27, 125, 343);
        colouringsAre("4 strands", new BraidKnots(4), 16, 81, 625, 2401);
    }

    /** That all p p choices come out counts those too in which 2 a - b is less than 0 or more than p - 1. */
    private static void colouringsWrapRound() {
        due.sentence("18: 2 a - b modulo p, 2 b - a modulo p");
        colouringsAre("three turns", due.braid(2, 1, 1, 1), 2, 9, 5, 7);
        colouringsAre("three turns back", due.braid(2, -1, -1, -1), 2, 9, 5, 7);
        colouringsAre("five turns", due.braid(2, Due.times(5, 1)), 2, 3, 25, 7);
        colouringsAre("five turns back", due.braid(2, Due.times(5, -1)), 2, 3, 25, 7);
        colouringsAre("seven turns", due.braid(2, Due.times(7, 1)), 2, 3, 5, 49);
        colouringsAre("seven turns back", due.braid(2, Due.times(7, -1)), 2, 3, 5, 49);
    }

    private static void colouringsOfFullWords() {
        due.sentence("18: of full words");
        colouringsAre("ten turns", due.braid(2, Due.times(10, 1)), 4, 3, 25, 7);
        colouringsAre("ten turns of four strands", due.braid(4, Due.times(10, -2)), 16, 27, 625, 343);
        colouringsAre("1 -1 five times", due.braid(4, 1, -1, 1, -1, 1, -1, 1, -1, 1, -1), 16, 81, 625, 2401);
        colouringsAre("1 -2 five times", due.braid(3, 1, -2, 1, -2, 1, -2, 1, -2, 1, -2), 2, 3, 5, 7);
    }

    private static void colouringsRefused() {
        due.sentence("18: BAD_ARG if p is not 2, 3, 5 or 7");
        BraidKnots empty = new BraidKnots(4);
        BraidKnots full = due.braid(4, TEN);
        for (int p : new int[] {LEAST, -7, -5, -3, -2, -1, 0, 1, 4, 6, 8, 9, 10, 11, 13, GREATEST}) {
            due.is("colourings(" + p + ")", empty.colourings(p), BraidKnots.BAD_ARG);
            due.is("full, colourings(" + p + ")", full.colourings(p), BraidKnots.BAD_ARG);
        }
    }
}
