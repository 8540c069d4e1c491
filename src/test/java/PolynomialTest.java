/** Promises 11 to 14: the bracket, the invariant, the spread and the determinant. */
public final class PolynomialTest {
    private static final Due due = new Due("PolynomialTest");

    public static void main(String[] args) {
        bracket();
        farPowers();
        invariant();
        invariantStaysWhenTheLinkDoes();
        spread();
        determinant();
        due.end();
    }

    /** The terms are pairs of a power and its coefficient; every other coefficient is 0. */
    private static void bracketIs(String name, BraidKnots braid, int... terms) {
        for (int e = -60; e <= 60; e++) {
            due.is(name + ", bracket(" + e + ")", braid.bracket(e), coefficient(e, terms));
        }
    }

    private static void invariantIs(String name, BraidKnots braid, int... terms) {
        for (int e = -60; e <= 60; e++) {
            due.is(name + ", invariant(" + e + ")", braid.invariant(e), coefficient(e, terms));
        }
    }

    private static int coefficient(int e, int[] terms) {
        for (int t = 0; t < terms.length; t += 2) {
            if (terms[t] == e) {
                return terms[t + 1];
            }
        }
        return 0;
    }

    private static void bracket() {
        bracketIs("no letters, 2", new BraidKnots(2), 2, -1, -2, -1);
        bracketIs("no letters, 3", new BraidKnots(3), 4, 1, 0, 2, -4, 1);
        bracketIs("no letters, 4", new BraidKnots(4), 6, -1, 2, -3, -2, -3, -6, -1);
        bracketIs("1", due.braid(2, 1), 3, -1);
        bracketIs("-1", due.braid(2, -1), -3, -1);
        bracketIs("1 1", due.braid(2, 1, 1), 4, -1, -4, -1);
        bracketIs("1 1 1", due.braid(2, 1, 1, 1), 5, -1, -3, -1, -7, 1);
        bracketIs("-1 -1 -1", due.braid(2, -1, -1, -1), -5, -1, 3, -1, 7, 1);
        bracketIs("1 -2 1 -2", due.braid(3, 1, -2, 1, -2), 8, 1, 4, -1, 0, 1, -4, -1, -8, 1);
        bracketIs("1 -1", due.braid(4, 1, -1), 6, -1, 2, -3, -2, -3, -6, -1);
        // By hand: a letter is x + x^-1 E with E E = d E, so that ten of them beside two free strands
        // make x^10 (d^3 - d) + x^-30 d. No word reaches a power farther out than 32.
        bracketIs("ten turns of four strands", due.braid(4, 3, 3, 3, 3, 3, 3, 3, 3, 3, 3),
            16, -1, 12, -2, 8, -2, 4, -1, -28, -1, -32, -1);
        bracketIs("ten turns back", due.braid(4, -1, -1, -1, -1, -1, -1, -1, -1, -1, -1),
            -16, -1, -12, -2, -8, -2, -4, -1, 28, -1, 32, -1);
    }

    private static void farPowers() {
        BraidKnots braid = due.braid(2, 1, 1, 1);
        int[] far = {37, -37, 73, -73, 1000, -1000, Integer.MIN_VALUE, Integer.MAX_VALUE};
        for (int e : far) {
            due.is("bracket(" + e + ")", braid.bracket(e), 0);
            due.is("invariant(" + e + ")", braid.invariant(e), 0);
        }
        BraidKnots below = due.braid(2, -1, -1, -1);
        for (int step = 0; step < 40; step++) {
            due.is("invariant near the greatest", braid.invariant(Integer.MAX_VALUE - step), 0);
            due.is("invariant near the least", below.invariant(Integer.MIN_VALUE + step), 0);
        }
    }

    private static void invariant() {
        invariantIs("no letters, 2", new BraidKnots(2), 2, -1, -2, -1);
        invariantIs("1", due.braid(2, 1), 0, 1);
        invariantIs("-1", due.braid(2, -1), 0, 1);
        invariantIs("1 1", due.braid(2, 1, 1), -2, -1, -10, -1);
        invariantIs("1 1 1", due.braid(2, 1, 1, 1), -4, 1, -12, 1, -16, -1);
        invariantIs("-1 -1 -1", due.braid(2, -1, -1, -1), 4, 1, 12, 1, 16, -1);
        invariantIs("1 -2 1 -2", due.braid(3, 1, -2, 1, -2), 8, 1, 4, -1, 0, 1, -4, -1, -8, 1);
        invariantIs("five turns", due.braid(2, 1, 1, 1, 1, 1), -8, 1, -16, 1, -20, -1, -24, 1, -28, -1);
    }

    private static void same(String name, BraidKnots one, BraidKnots other) {
        for (int e = -70; e <= 70; e++) {
            due.is(name + ", invariant(" + e + ")", other.invariant(e), one.invariant(e));
        }
    }

    private static void invariantStaysWhenTheLinkDoes() {
        same("a letter and its negative", due.braid(3, 1, 2, 2), due.braid(3, 1, 2, -1, 1, 2));
        same("1 2 1 is 2 1 2", due.braid(4, 1, 2, 1, 3, 3), due.braid(4, 2, 1, 2, 3, 3));
        same("1 3 is 3 1", due.braid(4, 1, 3, 2, 1), due.braid(4, 3, 1, 2, 1));
        same("a strand more, letter 2", due.braid(2, 1, 1, 1), due.braid(3, 1, 1, 1, 2));
        same("a strand more, letter -2", due.braid(2, 1, 1, 1), due.braid(3, 1, 1, 1, -2));
        BraidKnots turned = due.braid(4, 1, 2, -3, 2, 1, -3);
        due.is("turn()", turned.turn(), 1);
        same("turned", due.braid(4, 1, 2, -3, 2, 1, -3), turned);
    }

    private static void spread() {
        due.is("no letters, 2", new BraidKnots(2).spread(), 4);
        due.is("no letters, 3", new BraidKnots(3).spread(), 8);
        due.is("no letters, 4", new BraidKnots(4).spread(), 12);
        due.is("1", due.braid(2, 1).spread(), 0);
        due.is("1 1", due.braid(2, 1, 1).spread(), 8);
        due.is("1 1 1", due.braid(2, 1, 1, 1).spread(), 12);
        due.is("1 -2 1 -2", due.braid(3, 1, -2, 1, -2).spread(), 16);
        due.is("ten turns", due.braid(2, 1, 1, 1, 1, 1, 1, 1, 1, 1, 1).spread(), 40);
        due.is("ten turns of four strands", due.braid(4, 3, 3, 3, 3, 3, 3, 3, 3, 3, 3).spread(), 48);
    }

    private static void determinant() {
        due.is("no letters", new BraidKnots(3).determinant(), 0);
        due.is("1", due.braid(2, 1).determinant(), 1);
        due.is("-1", due.braid(2, -1).determinant(), 1);
        due.is("1 1", due.braid(2, 1, 1).determinant(), 2);
        due.is("1 1 1", due.braid(2, 1, 1, 1).determinant(), 3);
        due.is("-1 -1 -1", due.braid(2, -1, -1, -1).determinant(), 3);
        due.is("1 -2 1 -2", due.braid(3, 1, -2, 1, -2).determinant(), 5);
        due.is("ten turns", due.braid(2, 1, 1, 1, 1, 1, 1, 1, 1, 1, 1).determinant(), 10);
        due.is("three rings", due.braid(3, 1, -2, 1, -2, 1, -2).determinant(), 16);
        due.is("1 -2 five times", due.braid(3, 1, -2, 1, -2, 1, -2, 1, -2, 1, -2).determinant(), 121);
    }
}
