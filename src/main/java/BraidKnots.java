/**
 * Closed braids: their states and loops, a polynomial that is made of these, colourings and linking.
 *
 * <p>Every answer is worked out anew from the word, so that no call can meet a value that is out of date.
 */
public final class BraidKnots {
    public static final int BAD_ARG = -1000;
    public static final int FULL = -1001;
    public static final int NONE = -1002;

    private static final int MIN_STRANDS = 2;
    private static final int MAX_STRANDS = 4;
    private static final int MAX_LETTERS = 10;

    // Each strand has an end at the top and one at the bottom.
    private static final int MAX_ENDS = 8;

    // A shut letter makes at most one loop more, so there are at most 4 + 10 loops; the letters reach
    // the power 10, and 13 factors d reach 26 more.
    private static final int REACH = 36;
    private static final int POWERS = 73;

    private final int strands;
    private int length;
    private final int[] word = new int[MAX_LETTERS];

    // Work space, filled anew by each call that needs it.
    private final int[] partner = new int[MAX_ENDS];
    private final int[] coefficients = new int[POWERS];
    private final int[] owners = new int[MAX_STRANDS];
    private final int[] chosen = new int[MAX_STRANDS];
    private final int[] colours = new int[MAX_STRANDS];

    public BraidKnots(int strands) {
        if (strands < MIN_STRANDS) {
            this.strands = MIN_STRANDS;
        } else if (strands > MAX_STRANDS) {
            this.strands = MAX_STRANDS;
        } else {
            this.strands = strands;
        }
        this.length = 0;
    }

    public int add(int letter) {
        // Not by way of the absolute value: the least int has none.
        if (letter == 0 || letter >= strands || letter <= -strands) {
            return BAD_ARG;
        }
        if (length >= MAX_LETTERS) {
            return FULL;
        }
        word[length] = letter;
        length++;
        return length;
    }

    public int drop(int k) {
        if (k < 0 || k >= length) {
            return NONE;
        }
        int dropped = word[k];
        for (int j = k + 1; j < length; j++) {
            word[j - 1] = word[j];
        }
        length--;
        return dropped;
    }

    public int turn() {
        int first = drop(0);
        if (first != NONE) {
            add(first);
        }
        return first;
    }

    public int mirror() {
        for (int k = 0; k < length; k++) {
            word[k] = -word[k];
        }
        return length;
    }

    public int reverse() {
        for (int k = 0; k < length / 2; k++) {
            int kept = word[k];
            word[k] = word[length - 1 - k];
            word[length - 1 - k] = kept;
        }
        return length;
    }

    public int letter(int k) {
        if (k < 0 || k >= length) {
            return NONE;
        }
        return word[k];
    }

    public int writhe() {
        int sum = 0;
        for (int k = 0; k < length; k++) {
            sum += signOf(k);
        }
        return sum;
    }

    public int loops(int state) {
        startArcs();
        int closed = 0;
        for (int k = 0; k < length; k++) {
            if (isShut(state, k)) {
                int right = rightOf(k);
                closed += shutAt(right);
            }
        }
        for (int position = 0; position < strands; position++) {
            closed += joinEnds(position, strands + position);
        }
        return closed;
    }

    public int states(int loops) {
        int found = 0;
        for (int state = 0; state < 1 << length; state++) {
            if (loops(state) == loops) {
                found++;
            }
        }
        return found;
    }

    public int bracket(int e) {
        makeBracket();
        return coefficientOf(e);
    }

    public int invariant(int e) {
        makeBracket();
        int w = writhe();
        // Where this sum wraps round, it is still far out of the bracket's reach.
        int coefficient = coefficientOf(e + 3 * w);
        return w % 2 == 0 ? coefficient : -coefficient;
    }

    public int spread() {
        makeBracket();
        int least = leastPower();
        int greatest = least;
        for (int at = least; at < POWERS; at++) {
            if (coefficients[at] != 0) {
                greatest = at;
            }
        }
        return greatest - least;
    }

    public int determinant() {
        makeBracket();
        int sum = 0;
        int sign = 1;
        for (int at = leastPower(); at < POWERS; at += 4) {
            sum += sign * coefficients[at];
            sign = -sign;
        }
        return sum < 0 ? -sum : sum;
    }

    public int components() {
        int found = 0;
        for (int position = 0; position < strands; position++) {
            if (componentOf(position) == position) {
                found++;
            }
        }
        return found;
    }

    public int ends(int position) {
        if (position < 0 || position >= strands) {
            return BAD_ARG;
        }
        int at = position;
        for (int k = 0; k < length; k++) {
            int right = rightOf(k);
            if (at == right) {
                at = right - 1;
            } else if (at == right - 1) {
                at = right;
            }
        }
        return at;
    }

    public int linking(int i, int j) {
        if (i < 0 || i >= strands || j < 0 || j >= strands) {
            return BAD_ARG;
        }
        int one = componentOf(i);
        int other = componentOf(j);
        if (one == other) {
            return NONE;
        }
        startOwners();
        int sum = 0;
        for (int k = 0; k < length; k++) {
            int right = rightOf(k);
            int a = owners[right - 1];
            int b = owners[right];
            if ((a == one && b == other) || (a == other && b == one)) {
                sum += signOf(k);
            }
            owners[right - 1] = b;
            owners[right] = a;
        }
        return sum / 2;
    }

    public int colourings(int p) {
        if (p != 2 && p != 3 && p != 5 && p != 7) {
            return BAD_ARG;
        }
        int choices = 1;
        for (int position = 0; position < strands; position++) {
            choices *= p;
        }
        int found = 0;
        for (int choice = 0; choice < choices; choice++) {
            chooseColours(choice, p);
            carryColours(p);
            if (coloursMeet()) {
                found++;
            }
        }
        return found;
    }

    private int signOf(int k) {
        return word[k] > 0 ? 1 : -1;
    }

    /** The right one of the two positions that change places at letter k. */
    private int rightOf(int k) {
        return word[k] > 0 ? word[k] : -word[k];
    }

    private boolean isShut(int state, int k) {
        return (state >> k & 1) == 1;
    }

    /**
     * Loops are counted without a picture of the whole braid: only the open arcs above the letter
     * that has been come to are kept. Their ends are 0 to n - 1 at the top and n to 2 n - 1 at the
     * bottom, and each end knows the other end of its arc.
     */
    private void startArcs() {
        for (int position = 0; position < strands; position++) {
            partner[position] = strands + position;
            partner[strands + position] = position;
        }
    }

    /** Joins two ends of arcs, which are then ends no more; answers how many loops this closes. */
    private int joinEnds(int a, int b) {
        if (partner[a] == b) {
            return 1;
        }
        int farA = partner[a];
        int farB = partner[b];
        partner[farA] = farB;
        partner[farB] = farA;
        return 0;
    }

    private int shutAt(int right) {
        int a = strands + right - 1;
        int b = strands + right;
        int closed = joinEnds(a, b);
        // Below the letter the two positions begin a new arc.
        partner[a] = b;
        partner[b] = a;
        return closed;
    }

    private int exponentOf(int state) {
        int sum = 0;
        for (int k = 0; k < length; k++) {
            if (isShut(state, k)) {
                sum -= signOf(k);
            } else {
                sum += signOf(k);
            }
        }
        return sum;
    }

    private void makeBracket() {
        for (int at = 0; at < POWERS; at++) {
            coefficients[at] = 0;
        }
        for (int state = 0; state < 1 << length; state++) {
            int exponent = exponentOf(state);
            int factors = loops(state) - 1;
            addTerm(exponent, factors);
        }
    }

    /** Adds x^exponent d^factors, with d^factors laid out by its binomial coefficients. */
    private void addTerm(int exponent, int factors) {
        int coefficient = factors % 2 == 0 ? 1 : -1;
        for (int j = 0; j <= factors; j++) {
            coefficients[REACH + exponent + 2 * factors - 4 * j] += coefficient;
            coefficient = coefficient * (factors - j) / (j + 1);
        }
    }

    private int coefficientOf(int e) {
        if (e < -REACH || e > REACH) {
            return 0;
        }
        return coefficients[REACH + e];
    }

    /** Where in the coefficients the first one stands that is not 0. */
    private int leastPower() {
        for (int at = 0; at < POWERS; at++) {
            if (coefficients[at] != 0) {
                return at;
            }
        }
        return REACH;
    }

    /** A component is named by the least position in which a strand of it begins. */
    private int componentOf(int position) {
        int least = position;
        int at = position;
        for (int step = 0; step < strands; step++) {
            at = ends(at);
            if (at < least) {
                least = at;
            }
        }
        return least;
    }

    private void startOwners() {
        for (int position = 0; position < strands; position++) {
            owners[position] = componentOf(position);
        }
    }

    /** The digits of choice to the base p are the numbers at the top. */
    private void chooseColours(int choice, int p) {
        int rest = choice;
        for (int position = 0; position < strands; position++) {
            chosen[position] = rest % p;
            colours[position] = rest % p;
            rest = rest / p;
        }
    }

    private void carryColours(int p) {
        for (int k = 0; k < length; k++) {
            int right = rightOf(k);
            int a = colours[right - 1];
            int b = colours[right];
            // With p added nothing is negative before the remainder is taken.
            if (signOf(k) > 0) {
                colours[right - 1] = (2 * a - b + p) % p;
                colours[right] = a;
            } else {
                colours[right - 1] = b;
                colours[right] = (2 * b - a + p) % p;
            }
        }
    }

    private boolean coloursMeet() {
        for (int position = 0; position < strands; position++) {
            if (colours[position] != chosen[position]) {
                return false;
            }
        }
        return true;
    }
}
