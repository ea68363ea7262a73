import java.util.ArrayDeque;
import java.util.TreeSet;

/**
 * The document's terms taken word by word, by search and not by formula, so that it shares
 * no reasoning with the class: places topple one at a time from the last, recurrent states
 * are those reached from the full one, neutral and opposite states are looked for.
 */
final class Model {
    private final boolean[][] edge = new boolean[4][4];
    private final int[] sink = {1, 1, 1, 1};
    private int[] grains = new int[4];
    private TreeSet<Integer> recurrentOnes;
    private int neutralOne;

    boolean edge(int a, int b, boolean there) {
        if (a < 0 || a > 3 || b < 0 || b > 3 || a == b) {
            return false;
        }
        edge[a][b] = there;
        edge[b][a] = there;
        grains = new int[4];
        recurrentOnes = null;
        return true;
    }

    boolean sink(int a, int count) {
        if (a < 0 || a > 3 || count < 1 || count > 2) {
            return false;
        }
        sink[a] = count;
        grains = new int[4];
        recurrentOnes = null;
        return true;
    }

    int drop(int a, int more) {
        if (a < 0 || a > 3 || more < 0 || more > 1000) {
            return -1;
        }
        grains[a] += more;
        return settle(grains);
    }

    int state() {
        return number(grains);
    }

    boolean set(int state) {
        if (!stable(state)) {
            return false;
        }
        grains = digits(state);
        return true;
    }

    int degree(int a) {
        if (a < 0 || a > 3) {
            return -1;
        }
        int count = sink[a];
        for (boolean there : edge[a]) {
            count += there ? 1 : 0;
        }
        return count;
    }

    boolean recurrent(int state) {
        return recurrentOnes().contains(state);
    }

    int order() {
        return recurrentOnes().size();
    }

    int neutral() {
        recurrentOnes();
        return neutralOne;
    }

    int opposite(int state) {
        if (!recurrent(state)) {
            return -1;
        }
        for (int other : recurrentOnes()) {
            if (groupSum(state, other) == neutralOne) {
                return other;
            }
        }
        throw new IllegalStateException("no opposite");
    }

    int groupSum(int p, int q) {
        return stable(p) && stable(q) ? multiples(p, 1, q, 1) : -1;
    }

    int orderOf(int state) {
        if (!recurrent(state)) {
            return -1;
        }
        for (int k = 1; ; k++) {
            if (multiples(state, k, 0, 0) == neutralOne) {
                return k;
            }
        }
    }

    int recurrentOf(int state) {
        return stable(state) ? groupSum(neutral(), state) : -1;
    }

    boolean stable(int state) {
        if (state < 0 || state > 4095) {
            return false;
        }
        int[] ofState = digits(state);
        for (int a = 0; a < 4; a++) {
            if (ofState[a] >= degree(a)) {
                return false;
            }
        }
        return true;
    }

    /** The number of spanning trees of the graph with the sink, by the matrix-tree theorem. */
    int spanningTrees() {
        long[][] m = new long[4][4];
        for (int a = 0; a < 4; a++) {
            for (int b = 0; b < 4; b++) {
                m[a][b] = a == b ? degree(a) : edge[a][b] ? -1 : 0;
            }
        }
        long before = 1;
        for (int k = 0; k < 3; k++) {
            for (int i = k + 1; i < 4; i++) {
                for (int j = k + 1; j < 4; j++) {
                    m[i][j] = (m[i][j] * m[k][k] - m[i][k] * m[k][j]) / before;
                }
            }
            before = m[k][k];
        }
        return (int) m[3][3];
    }

    private int multiples(int p, int timesP, int q, int timesQ) {
        int[] ofP = digits(p);
        int[] ofQ = digits(q);
        int[] sum = new int[4];
        for (int a = 0; a < 4; a++) {
            sum[a] = timesP * ofP[a] + timesQ * ofQ[a];
        }
        settle(sum);
        return number(sum);
    }

    private TreeSet<Integer> recurrentOnes() {
        if (recurrentOnes == null) {
            recurrentOnes = reachedFromFull();
            neutralOne = lookForNeutral();
        }
        return recurrentOnes;
    }

    private TreeSet<Integer> reachedFromFull() {
        int full = number(new int[] {degree(0) - 1, degree(1) - 1, degree(2) - 1, degree(3) - 1});
        TreeSet<Integer> reached = new TreeSet<>();
        ArrayDeque<Integer> open = new ArrayDeque<>();
        reached.add(full);
        open.add(full);
        while (!open.isEmpty()) {
            int from = open.remove();
            for (int a = 0; a < 4; a++) {
                int[] next = digits(from);
                next[a]++;
                settle(next);
                if (reached.add(number(next))) {
                    open.add(number(next));
                }
            }
        }
        return reached;
    }

    private int lookForNeutral() {
        int found = -1;
        for (int candidate : recurrentOnes) {
            boolean keepsAll = true;
            for (int other : recurrentOnes) {
                if (groupSum(candidate, other) != other) {
                    keepsAll = false;
                    break;
                }
            }
            if (keepsAll) {
                if (found != -1) {
                    throw new IllegalStateException("two neutral states");
                }
                found = candidate;
            }
        }
        return found;
    }

    private int settle(int[] pile) {
        int topplings = 0;
        int a = 3;
        while (a >= 0) {
            if (pile[a] < degree(a)) {
                a--;
                continue;
            }
            pile[a] -= degree(a);
            for (int b = 0; b < 4; b++) {
                pile[b] += edge[a][b] ? 1 : 0;
            }
            topplings++;
            a = 3;
        }
        return topplings;
    }

    private static int[] digits(int state) {
        return new int[] {state / 512, state / 64 % 8, state / 8 % 8, state % 8};
    }

    private static int number(int[] pile) {
        return ((pile[0] * 8 + pile[1]) * 8 + pile[2]) * 8 + pile[3];
    }
}
