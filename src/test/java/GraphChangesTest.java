/**
 * Promises 2 and 3 on every graph there is: each call of edge and of sink that is not refused, from the full
 * state, and the graph that is there afterwards as the object's own answers show it.
 */
public final class GraphChangesTest {
    private static final Check check = new Check();

    public static void main(String[] args) {
        for (int graph = 0; graph < Graphs.COUNT; graph++) {
            int full = Numbers.full(Case.degrees(graph));
            for (int a = 0; a < 4; a++) {
                for (int b = 0; b < 4; b++) {
                    if (a != b) {
                        edgeIsThen(graph, full, a, b, true);
                        edgeIsThen(graph, full, a, b, false);
                    }
                }
                sinkIsThen(graph, full, a, 1);
                sinkIsThen(graph, full, a, 2);
            }
        }
        check.end();
    }

    private static void edgeIsThen(int graph, int full, int a, int b, boolean there) {
        String call = "2: edge(" + a + ", " + b + ", " + there + ") on graph " + graph;
        SandpileLab x = withFullState(graph, full);
        check.same(call, x.edge(a, b, there), true);
        int bit = Graphs.edgeBit(a, b);
        graphIsThen(call, x, there ? graph | bit : graph & ~bit);
    }

    private static void sinkIsThen(int graph, int full, int a, int count) {
        String call = "3: sink(" + a + ", " + count + ") on graph " + graph;
        SandpileLab x = withFullState(graph, full);
        check.same(call, x.sink(a, count), true);
        int bit = 1 << a;
        graphIsThen(call, x, count == 2 ? graph | bit : graph & ~bit);
    }

    private static SandpileLab withFullState(int graph, int full) {
        SandpileLab x = Graphs.lab(graph);
        check.same("set(full) on graph " + graph, x.set(full), true);
        check.same("state() on graph " + graph, x.state(), full);
        return x;
    }

    private static void graphIsThen(String call, SandpileLab x, int due) {
        check.same("state() after " + call, x.state(), 0);
        for (int a = 0; a < 4; a++) {
            x.set(0);
            int degree = x.degree(a);
            check.same("drop(" + a + ", degree) after " + call, x.drop(a, degree), 1);
            int neighbours = x.state();
            check.same("neighbours of " + a + " after " + call, neighbours, neighboursOf(a, due));
            check.same("degree(" + a + ") after " + call, degree, grains(neighbours) + 1 + (due >> a & 1));
        }
    }

    /** As a state with one grain at each neighbour: no neighbour topples for one grain, as its degree is at least 2. */
    private static int neighboursOf(int a, int graph) {
        int state = 0;
        for (int b = 0; b < 4; b++) {
            if (b != a && (graph & Graphs.edgeBit(a, b)) != 0) {
                state += Numbers.unit(b);
            }
        }
        return state;
    }

    private static int grains(int state) {
        return state / 512 + state / 64 % 8 + state / 8 % 8 + state % 8;
    }
}
