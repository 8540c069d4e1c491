import java.util.ArrayList;
import java.util.Arrays;
import java.util.Collections;
import java.util.List;
import java.util.Map;
import java.util.Set;
import java.util.TreeMap;

/**
 * The document's words once more, by other ways than the class: loops by joining all points of the
 * picture, powers of d by multiplying out, colourings by the rank of their equations.
 */
final class PlainBraid {
    final int n;
    final List<Integer> word = new ArrayList<>();

    PlainBraid(int strands) {
        n = Math.max(2, Math.min(4, strands));
    }

    int add(int letter) {
        if (letter == 0 || Math.abs((long) letter) > n - 1) {
            return -1000;
        }
        if (word.size() == 10) {
            return -1001;
        }
        word.add(letter);
        return word.size();
    }

    private boolean has(int k) {
        return 0 <= k && k < word.size();
    }

    int drop(int k) {
        return has(k) ? word.remove(k) : -1002;
    }

    int turn() {
        if (word.isEmpty()) {
            return -1002;
        }
        Collections.rotate(word, -1);
        return word.get(word.size() - 1);
    }

    int mirror() {
        word.replaceAll(letter -> -letter);
        return word.size();
    }

    int reverse() {
        Collections.reverse(word);
        return word.size();
    }

    int letter(int k) {
        return has(k) ? word.get(k) : -1002;
    }

    int writhe() {
        return word.stream().mapToInt(Integer::signum).sum();
    }

    /** Point (level, position) is above letter number level; the level behind the last letter is level 0 again. */
    int loops(int state) {
        int levels = Math.max(1, word.size());
        int[] name = new int[levels * n];
        for (int point = 0; point < name.length; point++) {
            name[point] = point;
        }
        for (int k = 0; k < word.size(); k++) {
            int above = k * n;
            int below = (k + 1) % levels * n;
            int i = Math.abs(word.get(k));
            boolean shut = ((long) state >> k & 1L) != 0;
            for (int position = 0; position < n; position++) {
                if (!shut || position != i && position != i - 1) {
                    rename(name, above + position, below + position);
                }
            }
            if (shut) {
                rename(name, above + i - 1, above + i);
                rename(name, below + i - 1, below + i);
            }
        }
        return (int) Arrays.stream(name).distinct().count();
    }

    private static void rename(int[] name, int one, int other) {
        int old = name[one];
        int now = name[other];
        for (int point = 0; point < name.length; point++) {
            if (name[point] == old) {
                name[point] = now;
            }
        }
    }

    int states(int loops) {
        int found = 0;
        for (int state = 0; state < 1 << word.size(); state++) {
            found += loops(state) == loops ? 1 : 0;
        }
        return found;
    }

    private static void addTo(Map<Integer, Integer> sum, int power, int coefficient) {
        if (sum.merge(power, coefficient, Integer::sum) == 0) {
            sum.remove(power);
        }
    }

    private static Map<Integer, Integer> times(Map<Integer, Integer> one, Map<Integer, Integer> other) {
        Map<Integer, Integer> product = new TreeMap<>();
        one.forEach((p, c) -> other.forEach((q, b) -> addTo(product, p + q, c * b)));
        return product;
    }

    TreeMap<Integer, Integer> bracket() {
        TreeMap<Integer, Integer> sum = new TreeMap<>();
        Map<Integer, Integer> d = Map.of(2, -1, -2, -1);
        for (int state = 0; state < 1 << word.size(); state++) {
            int exponent = 0;
            for (int k = 0; k < word.size(); k++) {
                int sign = Integer.signum(word.get(k));
                exponent += (state >> k & 1) == 0 ? sign : -sign;
            }
            Map<Integer, Integer> term = Map.of(exponent, 1);
            for (int more = loops(state); more > 1; more--) {
                term = times(term, d);
            }
            term.forEach((p, c) -> addTo(sum, p, c));
        }
        return sum;
    }

    Map<Integer, Integer> invariant(Map<Integer, Integer> bracket) {
        Map<Integer, Integer> product = bracket;
        int w = writhe();
        for (int step = 0; step < Math.abs(w); step++) {
            product = times(product, Map.of(w > 0 ? -3 : 3, -1));
        }
        return product;
    }

    int spread(TreeMap<Integer, Integer> bracket) {
        return bracket.lastKey() - bracket.firstKey();
    }

    int determinant(TreeMap<Integer, Integer> bracket) {
        int sum = 0;
        int m = bracket.firstKey();
        for (Map.Entry<Integer, Integer> term : bracket.entrySet()) {
            int steps = term.getKey() - m;
            if (steps % 4 == 0) {
                sum += steps % 8 == 0 ? term.getValue() : -term.getValue();
            }
        }
        return Math.abs(sum);
    }

    /** Which strand, named by its position at the top, is in each position above letter k. */
    private int[] strandsAbove(int k) {
        int[] strands = new int[n];
        for (int position = 0; position < n; position++) {
            strands[position] = position;
        }
        for (int letter : word.subList(0, k)) {
            int i = Math.abs(letter);
            int kept = strands[i];
            strands[i] = strands[i - 1];
            strands[i - 1] = kept;
        }
        return strands;
    }

    int ends(int position) {
        if (position < 0 || position >= n) {
            return -1000;
        }
        int[] bottom = strandsAbove(word.size());
        int at = 0;
        while (bottom[at] != position) {
            at++;
        }
        return at;
    }

    private int[] componentNames() {
        int[] name = strandsAbove(0);
        for (int position = 0; position < n; position++) {
            rename(name, position, ends(position));
        }
        return name;
    }

    int components() {
        return (int) Arrays.stream(componentNames()).distinct().count();
    }

    int linking(int i, int j) {
        if (i < 0 || i >= n || j < 0 || j >= n) {
            return -1000;
        }
        int[] name = componentNames();
        if (name[i] == name[j]) {
            return -1002;
        }
        int sum = 0;
        for (int k = 0; k < word.size(); k++) {
            int[] strands = strandsAbove(k);
            int at = Math.abs(word.get(k));
            Set<Integer> met = Set.of(name[i], name[j]);
            int a = name[strands[at - 1]];
            int b = name[strands[at]];
            if (a != b && met.contains(a) && met.contains(b)) {
                sum += Integer.signum(word.get(k));
            }
        }
        if (sum % 2 != 0) {
            throw new IllegalStateException("half of " + sum + " is not whole: " + word);
        }
        return sum / 2;
    }

    /** Column c holds where the numbers go that are 1 in position c at the top and 0 elsewhere. */
    int colourings(int p) {
        if (p != 2 && p != 3 && p != 5 && p != 7) {
            return -1000;
        }
        int[][] rows = new int[n][n];
        for (int c = 0; c < n; c++) {
            rows[c][c] = 1;
        }
        for (int letter : word) {
            int i = Math.abs(letter);
            int[] a = rows[i - 1];
            int[] b = rows[i];
            rows[i - 1] = letter > 0 ? twiceLess(a, b) : b;
            rows[i] = letter > 0 ? a : twiceLess(b, a);
        }
        for (int c = 0; c < n; c++) {
            rows[c] = rows[c].clone();
            rows[c][c] -= 1;
        }
        int count = 1;
        for (int free = n - rank(rows, p); free > 0; free--) {
            count *= p;
        }
        return count;
    }

    private int[] twiceLess(int[] a, int[] b) {
        int[] result = new int[n];
        for (int c = 0; c < n; c++) {
            result[c] = 2 * a[c] - b[c];
        }
        return result;
    }

    private int rank(int[][] rows, int p) {
        int rank = 0;
        for (int c = 0; c < n; c++) {
            int pivot = rank;
            while (pivot < n && Math.floorMod(rows[pivot][c], p) == 0) {
                pivot++;
            }
            if (pivot == n) {
                continue;
            }
            int[] kept = rows[pivot];
            rows[pivot] = rows[rank];
            rows[rank] = kept;
            for (int row = rank + 1; row < n; row++) {
                int factor = rows[row][c];
                for (int at = 0; at < n; at++) {
                    rows[row][at] = Math.floorMod(rows[row][at] * kept[c] - factor * kept[at], p);
                }
            }
            rank++;
        }
        return rank;
    }
}
