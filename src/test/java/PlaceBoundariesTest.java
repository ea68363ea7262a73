import java.util.List;

/**
 * Each sentence of promises 1 to 4 and 7 that names a boundary case, with a method of its own: the last
 * value that is taken and the first that is refused on each side, and what the next calls show.
 */
public final class PlaceBoundariesTest {
    private static final Check check = new Check();
    private static final List<Case> CASES = Case.all();
    private static final int MOST_GRAINS = 1000;

    public static void main(String[] args) {
        newObjectHasNoEdgesBetweenPlaces();
        newObjectHasOneEdgeFromEachPlaceToTheSink();
        newObjectHasNoGrains();
        edgeRefusesAOutside();
        edgeRefusesBOutside();
        edgeRefusesBothOutside();
        edgeRefusesAPlaceWithItself();
        edgeTakesAllElse();
        edgeMakesAllGrainsVanish();
        sinkRefusesAOutside();
        sinkRefusesCountOutside();
        sinkRefusesBothOutside();
        sinkTakesAllElse();
        sinkMakesAllGrainsVanish();
        dropRefusesAOutside();
        dropRefusesGrainsOutside();
        dropRefusesBothOutside();
        dropTakesAllElse();
        dropOfNoGrainsLeavesTheState();
        dropTopplesFromTheDegreeOn();
        dropOfMostGrainsOnLonePlaces();
        degreeRefusesAOutside();
        degreeGoesFromOneToFive();
        check.end();
    }

    private static void newObjectHasNoEdgesBetweenPlaces() {
        for (int a = 0; a < 4; a++) {
            SandpileLab x = new SandpileLab();
            // Room for a second grain everywhere, so that one that came from a neighbour would stay and be seen.
            for (int b = 0; b < 4; b++) {
                x.sink(b, 2);
            }
            check.same("1: drop(" + a + ", 2) on lone places", x.drop(a, 2), 1);
            check.same("1: state() then", x.state(), 0);
        }
    }

    private static void newObjectHasOneEdgeFromEachPlaceToTheSink() {
        for (int a = 0; a < 4; a++) {
            SandpileLab x = new SandpileLab();
            check.same("1: degree(" + a + ")", x.degree(a), 1);
            check.same("1: set with a grain at " + a, x.set(Numbers.unit(a)), false);
            check.same("1: drop(" + a + ", 1)", x.drop(a, 1), 1);
            check.same("1: drop(" + a + ", 2)", x.drop(a, 2), 2);
            check.same("1: order()", x.order(), 1);
        }
    }

    private static void newObjectHasNoGrains() {
        SandpileLab x = new SandpileLab();
        check.same("1: state()", x.state(), 0);
        for (int a = 0; a < 4; a++) {
            check.same("1: drop(" + a + ", 0)", new SandpileLab().drop(a, 0), 0);
        }
    }

    private static void edgeRefusesAOutside() {
        for (int wrong : Numbers.NO_PLACES) {
            for (int b = 0; b < 4; b++) {
                edgeIsRefused(wrong, b);
            }
        }
    }

    private static void edgeRefusesBOutside() {
        for (int wrong : Numbers.NO_PLACES) {
            for (int a = 0; a < 4; a++) {
                edgeIsRefused(a, wrong);
            }
        }
    }

    private static void edgeRefusesBothOutside() {
        for (int wrong : Numbers.NO_PLACES) {
            edgeIsRefused(wrong, wrong);
            edgeIsRefused(wrong, wrong == 4 ? -1 : 4);
        }
    }

    private static void edgeRefusesAPlaceWithItself() {
        for (int a = 0; a < 4; a++) {
            edgeIsRefused(a, a);
        }
    }

    private static void edgeIsRefused(int a, int b) {
        for (Case each : CASES) {
            each.refused(check, "2: edge(" + a + ", " + b + ", true)", x -> x.edge(a, b, true));
            each.refused(check, "2: edge(" + a + ", " + b + ", false)", x -> x.edge(a, b, false));
        }
    }

    private static void edgeTakesAllElse() {
        for (int a = 0; a < 4; a++) {
            for (int b = 0; b < 4; b++) {
                if (a != b) {
                    edgeIsTaken(a, b, true);
                    edgeIsTaken(a, b, false);
                }
            }
        }
    }

    private static void edgeIsTaken(int a, int b, boolean there) {
        String call = "2: edge(" + a + ", " + b + ", " + there + ")";
        for (Case each : CASES) {
            each.taken(check, call, x -> x.edge(a, b, there), m -> m.edge(a, b, there));
        }
    }

    private static void edgeMakesAllGrainsVanish() {
        for (int a = 0; a < 4; a++) {
            for (int b = 0; b < a; b++) {
                for (boolean there : new boolean[] {true, false}) {
                    for (int graph : new int[] {Graphs.LONE_TWOS, Graphs.ALL}) {
                        SandpileLab x = Graphs.lab(graph);
                        check.same("2: set(full)", x.set(Numbers.full(Case.degrees(graph))), true);
                        check.same("2: edge(" + a + ", " + b + ", " + there + ")", x.edge(a, b, there), true);
                        check.same("2: state() then, on graph " + graph, x.state(), 0);
                    }
                }
            }
        }
    }

    private static void sinkRefusesAOutside() {
        for (int wrong : Numbers.NO_PLACES) {
            sinkIsRefused(wrong, 1);
            sinkIsRefused(wrong, 2);
        }
    }

    private static void sinkRefusesCountOutside() {
        for (int wrong : Numbers.NO_SINK_COUNTS) {
            for (int a = 0; a < 4; a++) {
                sinkIsRefused(a, wrong);
            }
        }
    }

    private static void sinkRefusesBothOutside() {
        for (int wrong : Numbers.NO_PLACES) {
            sinkIsRefused(wrong, 0);
            sinkIsRefused(wrong, 3);
        }
    }

    private static void sinkIsRefused(int a, int count) {
        for (Case each : CASES) {
            each.refused(check, "3: sink(" + a + ", " + count + ")", x -> x.sink(a, count));
        }
    }

    private static void sinkTakesAllElse() {
        for (int place = 0; place < 4; place++) {
            int a = place;
            for (Case each : CASES) {
                each.taken(check, "3: sink(" + a + ", 1)", x -> x.sink(a, 1), m -> m.sink(a, 1));
                each.taken(check, "3: sink(" + a + ", 2)", x -> x.sink(a, 2), m -> m.sink(a, 2));
            }
        }
    }

    private static void sinkMakesAllGrainsVanish() {
        for (int a = 0; a < 4; a++) {
            for (int count = 1; count <= 2; count++) {
                for (int graph : new int[] {Graphs.RING, Graphs.ALL}) {
                    SandpileLab x = Graphs.lab(graph);
                    check.same("3: set(full)", x.set(Numbers.full(Case.degrees(graph))), true);
                    check.same("3: sink(" + a + ", " + count + ")", x.sink(a, count), true);
                    check.same("3: state() then, on graph " + graph, x.state(), 0);
                }
            }
        }
    }

    private static void dropRefusesAOutside() {
        for (int wrong : Numbers.NO_PLACES) {
            dropIsRefused(wrong, 0);
            dropIsRefused(wrong, 1);
            dropIsRefused(wrong, MOST_GRAINS);
        }
    }

    private static void dropRefusesGrainsOutside() {
        for (int wrong : Numbers.NO_GRAINS) {
            for (int a = 0; a < 4; a++) {
                dropIsRefused(a, wrong);
            }
        }
    }

    private static void dropRefusesBothOutside() {
        for (int wrong : Numbers.NO_PLACES) {
            dropIsRefused(wrong, -1);
            dropIsRefused(wrong, MOST_GRAINS + 1);
        }
    }

    private static void dropIsRefused(int a, int grains) {
        for (Case each : CASES) {
            each.bad(check, "4: drop(" + a + ", " + grains + ")", x -> x.drop(a, grains));
        }
    }

    private static void dropTakesAllElse() {
        for (int place = 0; place < 4; place++) {
            int a = place;
            for (int grains : new int[] {0, 1, 2, MOST_GRAINS - 1, MOST_GRAINS}) {
                String call = "4: drop(" + a + ", " + grains + ")";
                for (Case each : CASES) {
                    each.asOnModel(check, call, x -> x.drop(a, grains), m -> m.drop(a, grains));
                }
            }
        }
    }

    private static void dropOfNoGrainsLeavesTheState() {
        for (Case each : CASES) {
            for (int place = 0; place < 4; place++) {
                int a = place;
                each.answers(check, "4: drop(" + a + ", 0)", x -> x.drop(a, 0), 0);
            }
        }
    }

    private static void dropTopplesFromTheDegreeOn() {
        SandpileLab x = Graphs.lab(Graphs.UNEVEN_RING);
        check.same("4: drop(2, 3) where the degree is 4", x.drop(2, 3), 0);
        check.same("4: state() then", x.state(), Graphs.number(0, 0, 3, 0));
        check.same("4: drop(2, 1)", x.drop(2, 1), 1);
        check.same("4: state() then", x.state(), Graphs.number(0, 1, 0, 1));
        check.same("4: drop(0, 2) where the degree is 3", x.drop(0, 2), 0);
        check.same("4: state() then", x.state(), Graphs.number(2, 1, 0, 1));
        check.same("4: drop(0, 1)", x.drop(0, 1), 1);
        check.same("4: state() then", x.state(), Graphs.number(0, 2, 0, 2));
    }

    private static void dropOfMostGrainsOnLonePlaces() {
        for (int a = 0; a < 4; a++) {
            SandpileLab x = new SandpileLab();
            check.same("4: drop(" + a + ", 1000) with degree 1", x.drop(a, MOST_GRAINS), 1000);
            check.same("4: state() then", x.state(), 0);
            x.sink(a, 2);
            x.drop(a, 1);
            check.same("4: drop(" + a + ", 1000) on a grain, with degree 2", x.drop(a, MOST_GRAINS), 500);
            check.same("4: state() then", x.state(), Numbers.unit(a));
        }
    }

    private static void degreeRefusesAOutside() {
        for (int wrong : Numbers.NO_PLACES) {
            for (Case each : CASES) {
                each.bad(check, "7: degree(" + wrong + ")", x -> x.degree(wrong));
            }
        }
    }

    private static void degreeGoesFromOneToFive() {
        for (int a = 0; a < 4; a++) {
            SandpileLab x = new SandpileLab();
            check.same("7: degree(" + a + "), the least", x.degree(a), 1);
            for (int more = 1; more < 4; more++) {
                x.edge(a, (a + more) % 4, true);
                check.same("7: degree(" + a + ") with " + more + " neighbours", x.degree(a), 1 + more);
            }
            x.sink(a, 2);
            check.same("7: degree(" + a + "), the greatest", x.degree(a), 5);
        }
    }
}
