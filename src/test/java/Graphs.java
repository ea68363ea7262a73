/**
 * Graphs as numbers from 0 to 1023: bits 0 to 3 give places 0 to 3 a second edge to the sink,
 * bits 4 to 9 are the edges 0-1, 0-2, 1-2, 0-3, 1-3 and 2-3.
 */
final class Graphs {
    static final int COUNT = 1024;

    static final int NO_EDGES = 0;
    /** No edges between places, two from each to the sink: every degree is 2. */
    static final int LONE_TWOS = 15;
    /** Only the edge 0-1. By hand: of the states (g0, g1), all but (0, 0) are recurrent, and (1, 1) is neutral. */
    static final int PAIR = 16;
    /** Place 0 joined to all others and twice to the sink: degrees 5, 2, 2, 2. */
    static final int STAR = 1 + 16 + 32 + 128;
    /** A ring 0-1-2-3-0, every place with one edge to the sink: every degree is 3. */
    static final int RING = 16 + 64 + 128 + 512;
    /** The ring with a second edge from place 2 to the sink: degrees 3, 3, 4, 3. */
    static final int UNEVEN_RING = RING + 4;
    /** Every edge there is, and two to the sink: every degree is 5. */
    static final int ALL = 1023;

    interface Sink {
        boolean give(int a, int count);
    }

    interface Edge {
        boolean make(int a, int b, boolean there);
    }

    private Graphs() {
    }

    /** Ten calls on the object that the methods belong to. */
    static void build(int graph, Sink sink, Edge edge) {
        int bit = 0;
        for (int a = 0; a < 4; a++) {
            sink.give(a, 1 + (graph >> bit++ & 1));
        }
        for (int a = 0; a < 4; a++) {
            for (int b = 0; b < a; b++) {
                edge.make(a, b, (graph >> bit++ & 1) == 1);
            }
        }
    }

    static SandpileLab lab(int graph) {
        SandpileLab lab = new SandpileLab();
        build(graph, lab::sink, lab::edge);
        return lab;
    }

    static Model model(int graph) {
        Model model = new Model();
        build(graph, model::sink, model::edge);
        return model;
    }

    /** The bit of the edge between two different places, in either order. */
    static int edgeBit(int a, int b) {
        int greater = Math.max(a, b);
        int lesser = Math.min(a, b);
        return 16 << (greater * (greater - 1) / 2 + lesser);
    }

    static int number(int g0, int g1, int g2, int g3) {
        return 512 * g0 + 64 * g1 + 8 * g2 + g3;
    }
}
