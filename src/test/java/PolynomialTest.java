/** Promises 11 to 14: the bracket, the invariant, the spread and the determinant. */
public final class PolynomialTest {
    private static final int LEAST = Integer.MIN_VALUE;
    private static final int GREATEST = Integer.MAX_VALUE;
    private static final Due due = new Due("PolynomialTest");

    public static void main(String[] args) {
        bracketOfSmallBraids();
        bracketWithoutLetters();
        bracketWithOneLoopInEachTerm();
        bracketOfFullWords();
        bracketOfFarPowers();
        bracketCancels();
        invariantOfSmallBraids();
        invariantWithoutLetters();
        invariantWithWritheNone();
        invariantWithOddWrithe();
        invariantOfFullWords();
        invariantOfFarPowers();
        invariantStaysWhenTheLinkDoes();
        spreadOfSmallBraids();
        spreadWithoutLetters();
        spreadOfOneTerm();
        spreadOfFullWords();
        spreadAlwaysHasATerm();
        determinantOfSmallBraids();
        determinantWithoutItsSign();
        determinantWithTermsLeftOut();
        determinantOfNothing();
        determinantOfFullWords();
        due.end();
    }

    /** The terms are pairs of a power and its coefficient; every other coefficient is 0. */
    private static void bracketIs(String name, BraidKnots braid, int... terms) {
        for (int e = -75; e <= 75; e++) {
            due.is(name + ", bracket(" + e + ")", braid.bracket(e), coefficient(e, terms));
        }
    }

    private static void invariantIs(String name, BraidKnots braid, int... terms) {
        for (int e = -105; e <= 105; e++) {
            due.is(name + ", invariant(" + e + ")", braid.invariant(e), coefficient(e, terms));
        }
    }

    private static int coefficient(int e, int[] terms) {
        for (int t = 0; t < terms.length; t += 2) {
            if (terms[t] == e) {
                return terms[t + 1];
            }
        }
        return 0;
    }

    private static void bracketOfSmallBraids() {
        due.sentence("11: the coefficient of x^e in the bracket");
        bracketIs("1 1", due.braid(2, 1, 1), 4, -1, -4, -1);
        bracketIs("1 1 1", due.braid(2, 1, 1, 1), 5, -1, -3, -1, -7, 1);
        bracketIs("-1 -1 -1", due.braid(2, -1, -1, -1), -5, -1, 3, -1, 7, 1);
        bracketIs("1 -2 1 -2", due.braid(3, 1, -2, 1, -2), 8, 1, 4, -1, 0, 1, -4, -1, -8, 1);
    }

    private static void bracketWithoutLetters() {
        due.sentence("11: without letters the bracket is d^(n - 1)");
        bracketIs("2 strands", new BraidKnots(2), 2, -1, -2, -1);
        bracketIs("3 strands", new BraidKnots(3), 4, 1, 0, 2, -4, 1);
        bracketIs("4 strands", new BraidKnots(4), 6, -1, 2, -3, -2, -3, -6, -1);
    }

    private static void bracketWithOneLoopInEachTerm() {
        due.sentence("11: d^(l - 1) is 1 where there is one loop");
        bracketIs("1: x d + x^-1", due.braid(2, 1), 3, -1);
        bracketIs("-1: x^-1 d + x", due.braid(2, -1), -3, -1);
        bracketIs("1 2", due.braid(3, 1, 2), 6, 1);
        bracketIs("-1 -2 -3", due.braid(4, -1, -2, -3), -9, -1);
    }

    // A letter is x + x^-1 E with E E = d E, so that k of them beside two free strands make
    // x^k (d^3 - d) + (-x^-3)^k d. No word reaches a power farther out than 32.
    private static void bracketOfFullWords() {
        due.sentence("11: the farthest powers, of full words");
        bracketIs("ten turns", due.braid(4, Due.times(10, 3)), 16, -1, 12, -2, 8, -2, 4, -1, -28, -1, -32, -1);
        bracketIs("ten turns back", due.braid(4, Due.times(10, -1)),
            -16, -1, -12, -2, -8, -2, -4, -1, 28, -1, 32, -1);
        bracketIs("nine turns", due.braid(4, Due.times(9, 2)), 15, -1, 11, -2, 7, -2, 3, -1, -25, 1, -29, 1);
    }

    private static void bracketOfFarPowers() {
        due.sentence("11: powers that are too small or too large have coefficient 0");
        BraidKnots braid = due.braid(2, 1, 1, 1);
        BraidKnots full = due.braid(4, Due.times(10, 3));
        for (int e : new int[] {33, 36, 37, 72, 73, 74, 1000, 1 << 16, 1 << 30, GREATEST - 1, GREATEST}) {
            due.is("bracket(" + e + ")", braid.bracket(e), 0);
            due.is("full, bracket(" + e + ")", full.bracket(e), 0);
            due.is("bracket(" + -e + ")", braid.bracket(-e), 0);
            due.is("full, bracket(" + -e + ")", full.bracket(-e), 0);
        }
        due.is("bracket(least)", braid.bracket(LEAST), 0);
        due.is("full, bracket(least)", full.bracket(LEAST), 0);
    }

    private static void bracketCancels() {
        due.sentence("11: a letter and its negative leave the bracket as it was");
        bracketIs("1 -1", due.braid(4, 1, -1), 6, -1, 2, -3, -2, -3, -6, -1);
        bracketIs("1 -1 five times", due.braid(2, 1, -1, 1, -1, 1, -1, 1, -1, 1, -1), 2, -1, -2, -1);
    }

    private static void invariantOfSmallBraids() {
        due.sentence("12: the coefficient of x^e in the bracket times (-x^3)^(-w)");
        invariantIs("1 1", due.braid(2, 1, 1), -2, -1, -10, -1);
        invariantIs("-1 -1", due.braid(2, -1, -1), 2, -1, 10, -1);
        invariantIs("1 1 1", due.braid(2, 1, 1, 1), -4, 1, -12, 1, -16, -1);
        invariantIs("-1 -1 -1", due.braid(2, -1, -1, -1), 4, 1, 12, 1, 16, -1);
    }

    private static void invariantWithoutLetters() {
        due.sentence("12: without letters it is the bracket");
        invariantIs("2 strands", new BraidKnots(2), 2, -1, -2, -1);
        invariantIs("3 strands", new BraidKnots(3), 4, 1, 0, 2, -4, 1);
        invariantIs("4 strands", new BraidKnots(4), 6, -1, 2, -3, -2, -3, -6, -1);
    }

    private static void invariantWithWritheNone() {
        due.sentence("12: with writhe 0 it is the bracket");
        invariantIs("1 -2 1 -2", due.braid(3, 1, -2, 1, -2), 8, 1, 4, -1, 0, 1, -4, -1, -8, 1);
        invariantIs("1 -2", due.braid(3, 1, -2), 0, 1);
    }

    private static void invariantWithOddWrithe() {
        due.sentence("12: with an odd writhe the sign changes");
        invariantIs("1", due.braid(2, 1), 0, 1);
        invariantIs("-1", due.braid(2, -1), 0, 1);
        invariantIs("-1 -2 -3", due.braid(4, -1, -2, -3), 0, 1);
        invariantIs("five turns", due.braid(2, Due.times(5, 1)), -8, 1, -16, 1, -20, -1, -24, 1, -28, -1);
        invariantIs("nine turns", due.braid(4, Due.times(9, 3)),
            -12, 1, -16, 2, -20, 2, -24, 1, -52, -1, -56, -1);
    }

    private static void invariantOfFullWords() {
        due.sentence("12: the farthest powers, of full words");
        invariantIs("ten turns", due.braid(4, Due.times(10, 3)),
            -14, -1, -18, -2, -22, -2, -26, -1, -58, -1, -62, -1);
        invariantIs("ten turns back", due.braid(4, Due.times(10, -1)),
            14, -1, 18, -2, 22, -2, 26, -1, 58, -1, 62, -1);
    }

    private static void invariantOfFarPowers() {
        due.sentence("12: powers that are too small or too large have coefficient 0");
        BraidKnots up = due.braid(2, Due.times(10, 1));
        BraidKnots down = due.braid(2, Due.times(10, -1));
        BraidKnots none = new BraidKnots(2);
        for (int step = 0; step < 70; step++) {
            due.is("greatest - " + step + ", writhe 10", up.invariant(GREATEST - step), 0);
            due.is("greatest - " + step + ", writhe -10", down.invariant(GREATEST - step), 0);
            due.is("least + " + step + ", writhe 10", up.invariant(LEAST + step), 0);
            due.is("least + " + step + ", writhe -10", down.invariant(LEAST + step), 0);
            due.is("greatest - " + step + ", writhe 0", none.invariant(GREATEST - step), 0);
            due.is("least + " + step + ", writhe 0", none.invariant(LEAST + step), 0);
        }
    }

    private static void same(String name, BraidKnots one, BraidKnots other) {
        for (int e = -70; e <= 70; e++) {
            due.is(name + ", invariant(" + e + ")", other.invariant(e), one.invariant(e));
        }
    }

    private static void invariantStaysWhenTheLinkDoes() {
        due.sentence("12: the invariant, by what it is named for");
        same("a letter and its negative", due.braid(3, 1, 2, 2), due.braid(3, 1, 2, -1, 1, 2));
        same("1 2 1 is 2 1 2", due.braid(4, 1, 2, 1, 3, 3), due.braid(4, 2, 1, 2, 3, 3));
        same("1 3 is 3 1", due.braid(4, 1, 3, 2, 1), due.braid(4, 3, 1, 2, 1));
        same("a strand more, letter 2", due.braid(2, 1, 1, 1), due.braid(3, 1, 1, 1, 2));
        same("a strand more, letter -2", due.braid(2, 1, 1, 1), due.braid(3, 1, 1, 1, -2));
        BraidKnots turned = due.braid(4, 1, 2, -3, 2, 1, -3);
        due.is("turn()", turned.turn(), 1);
        same("turned", due.braid(4, 1, 2, -3, 2, 1, -3), turned);
    }

    private static void spreadOfSmallBraids() {
        due.sentence("13: the greatest e less the least one");
        due.is("1 1", due.braid(2, 1, 1).spread(), 8);
        due.is("1 1 1", due.braid(2, 1, 1, 1).spread(), 12);
        due.is("-1 -1 -1", due.braid(2, -1, -1, -1).spread(), 12);
        due.is("1 -2 1 -2", due.braid(3, 1, -2, 1, -2).spread(), 16);
    }

    private static void spreadWithoutLetters() {
        due.sentence("13: without letters");
        due.is("2 strands", new BraidKnots(2).spread(), 4);
        due.is("3 strands", new BraidKnots(3).spread(), 8);
        due.is("4 strands", new BraidKnots(4).spread(), 12);
    }

    private static void spreadOfOneTerm() {
        due.sentence("13: the greatest is the least");
        due.is("1", due.braid(2, 1).spread(), 0);
        due.is("-1", due.braid(2, -1).spread(), 0);
        due.is("1 2 3", due.braid(4, 1, 2, 3).spread(), 0);
        due.is("1 -1 1 -1 1", due.braid(2, 1, -1, 1, -1, 1).spread(), 0);
    }

    private static void spreadOfFullWords() {
        due.sentence("13: the greatest spreads, of full words");
        due.is("ten turns", due.braid(2, Due.times(10, 1)).spread(), 40);
        due.is("ten turns of four strands", due.braid(4, Due.times(10, 3)).spread(), 48);
        due.is("ten turns back", due.braid(4, Due.times(10, -1)).spread(), 48);
        due.is("1 -2 five times", due.braid(3, 1, -2, 1, -2, 1, -2, 1, -2, 1, -2).spread(), 40);
    }

    private static void spreadAlwaysHasATerm() {
        due.sentence("13: there are some always");
        for (int code = 0; code < 256; code++) {
            BraidKnots braid = new BraidKnots(3);
            for (int k = 0; k < 4; k++) {
                int digit = code >> 2 * k & 3;
                due.is("add", braid.add(digit < 2 ? digit - 2 : digit - 1), k + 1);
            }
            int least = GREATEST;
            int greatest = LEAST;
            for (int e = -40; e <= 40; e++) {
                if (braid.bracket(e) != 0) {
                    least = Math.min(least, e);
                    greatest = e;
                }
            }
            due.holds("word " + code + " has a term", least <= greatest);
            due.is("word " + code + ", spread()", braid.spread(), greatest - least);
        }
    }

    private static void determinantOfSmallBraids() {
        due.sentence("14: c(m) - c(m + 4) + c(m + 8) - c(m + 12) ..");
        due.is("1 1", due.braid(2, 1, 1).determinant(), 2);
        due.is("1 -2 1 -2", due.braid(3, 1, -2, 1, -2).determinant(), 5);
        due.is("three rings", due.braid(3, 1, -2, 1, -2, 1, -2).determinant(), 16);
    }

    private static void determinantWithoutItsSign() {
        due.sentence("14: without its sign");
        due.is("1, the sum is -1", due.braid(2, 1).determinant(), 1);
        due.is("1 2, the sum is 1", due.braid(3, 1, 2).determinant(), 1);
        due.is("1 1 1, the sum is 3", due.braid(2, 1, 1, 1).determinant(), 3);
        due.is("-1 -1 -1, the sum is -3", due.braid(2, -1, -1, -1).determinant(), 3);
    }

    private static void determinantWithTermsLeftOut() {
        due.sentence("14: a coefficient 0 between others counts as a step");
        // x^10 d + (x^-30 - x^10) / d: each fourth power from -28 to 12 has a term, but 8 has none.
        due.is("ten turns", due.braid(2, Due.times(10, 1)).determinant(), 10);
        due.is("nine turns", due.braid(2, Due.times(9, -1)).determinant(), 9);
    }

    private static void determinantOfNothing() {
        due.sentence("14: the sum is 0");
        for (int n = 2; n <= 4; n++) {
            due.is(n + " strands, no letters", new BraidKnots(n).determinant(), 0);
            due.is(n + " strands, 1 -1", due.braid(n, 1, -1).determinant(), 0);
        }
        due.is("a strand lies apart", due.braid(3, 1, 1, 1).determinant(), 0);
    }

    private static void determinantOfFullWords() {
        due.sentence("14: of full words");
        due.is("1 -2 five times", due.braid(3, 1, -2, 1, -2, 1, -2, 1, -2, 1, -2).determinant(), 121);
        due.is("-1 2 five times", due.braid(3, -1, 2, -1, 2, -1, 2, -1, 2, -1, 2).determinant(), 121);
        due.is("ten turns of four strands", due.braid(4, Due.times(10, 3)).determinant(), 0);
    }
}
