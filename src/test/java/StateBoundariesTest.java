import java.util.ArrayList;
import java.util.List;

/**
 * Each sentence of promises 6, 8 and 11 to 14 that names a boundary case, with a method of its own: the last
 * number that is taken and the first that is refused on each side, and what the next calls show.
 */
public final class StateBoundariesTest {
    private interface Question {
        int ask(SandpileLab x, int number);
    }

    private static final Check check = new Check();
    private static final List<Case> CASES = Case.all();

    // With every edge and two to the sink, a state is recurrent iff its places can be put in an order in
    // which they have at least 3, 2, 1 and 0 grains. Here are least ones of that kind; then states that lack
    // one grain of it, and others that lack as little in another place or have none at all.
    private static final int[] JUST_RECURRENT = {
        Graphs.number(3, 2, 1, 0), Graphs.number(0, 1, 2, 3), Graphs.number(1, 3, 0, 2), Graphs.number(2, 0, 3, 1)};
    private static final int[] JUST_NOT_RECURRENT = {
        Graphs.number(2, 2, 1, 0), Graphs.number(3, 1, 1, 0), Graphs.number(3, 2, 0, 0),
        Graphs.number(0, 1, 2, 2), Graphs.number(0, 1, 1, 3), Graphs.number(0, 0, 2, 3),
        Graphs.number(4, 4, 0, 0), Graphs.number(2, 2, 2, 2), Graphs.number(4, 1, 1, 1), 0};

    // Of all states on all graphs none has a greater order than this one, 240: all edges are there,
    // and places 0 and 1 have two to the sink.
    private static final Case GREATEST_ORDER = new Case(Graphs.ALL - 4 - 8, Graphs.number(0, 1, 2, 3));

    public static void main(String[] args) {
        setRefusesWhatIsNoStableState();
        setTakesEachStableState();
        recurrentIsFalseForWhatIsNoStableState();
        recurrentIsFalseForOtherStableStates();
        recurrentIsTrueForTheLastRecurrentStates();
        oppositeIsBadForWhatIsNoStableState();
        oppositeIsBadForOtherStableStates();
        oppositeTakesTheLastRecurrentStates();
        groupSumIsBadIfTheFirstIsNoStableState();
        groupSumIsBadIfTheSecondIsNoStableState();
        groupSumIsBadIfNeitherIsAStableState();
        groupSumTakesTheFirstAndLastStableStates();
        orderOfIsOneForTheNeutralState();
        orderOfIsTheSmallest();
        orderOfIsBadForWhatIsNoStableState();
        orderOfIsBadForOtherStableStates();
        orderOfTakesTheLastRecurrentStates();
        recurrentOfIsBadForWhatIsNoStableState();
        recurrentOfTakesTheFirstAndLastStableStates();
        recurrentOfIsAlwaysRecurrent();
        check.end();
    }

    /** The empty state, the full one, and those with all the grains that one place can have, alone and among full ones. */
    private static List<Integer> firstAndLastStable(Case each) {
        int[] degrees = each.degrees();
        List<Integer> numbers = new ArrayList<>(List.of(0, each.full()));
        for (int place = 0; place < 4; place++) {
            int most = (degrees[place] - 1) * Numbers.unit(place);
            numbers.add(most);
            numbers.add(each.full() - most);
        }
        return numbers;
    }

    private static void badForNoStableStates(String call, Question question) {
        for (Case each : CASES) {
            for (int number : Numbers.noStableStates(each.degrees())) {
                each.bad(check, call + "(" + number + ")", x -> question.ask(x, number));
            }
        }
    }

    private static void badForOtherStableStates(String call, Question question) {
        for (Case each : otherStableStates()) {
            each.bad(check, call + "(" + each.state() + ")", x -> question.ask(x, each.state()));
        }
    }

    /** Stable states that are not recurrent, by hand. */
    private static List<Case> otherStableStates() {
        List<Case> cases = new ArrayList<>();
        for (int number : JUST_NOT_RECURRENT) {
            cases.add(new Case(Graphs.ALL, number));
        }
        cases.add(new Case(Graphs.PAIR, 0));
        // On the ring, two neighbours can't both be empty.
        cases.add(new Case(Graphs.RING, Graphs.number(0, 0, 2, 2)));
        cases.add(new Case(Graphs.RING, Graphs.number(0, 2, 2, 0)));
        return cases;
    }

    private static void setRefusesWhatIsNoStableState() {
        for (Case each : CASES) {
            for (int number : Numbers.noStableStates(each.degrees())) {
                each.refused(check, "6: set(" + number + ")", x -> x.set(number));
            }
        }
    }

    private static void setTakesEachStableState() {
        for (Case each : CASES) {
            for (int number : firstAndLastStable(each)) {
                each.taken(check, "6: set(" + number + ")", x -> x.set(number), m -> m.set(number));
            }
        }
        // By hand: place 0 may have 4 grains, the others 1.
        SandpileLab x = Graphs.lab(Graphs.STAR);
        check.same("6: set(4, 1, 1, 1)", x.set(Graphs.number(4, 1, 1, 1)), true);
        check.same("6: state() then", x.state(), Graphs.number(4, 1, 1, 1));
        check.same("6: set(5, 0, 0, 0)", x.set(Graphs.number(5, 0, 0, 0)), false);
        check.same("6: set(0, 2, 0, 0)", x.set(Graphs.number(0, 2, 0, 0)), false);
        check.same("6: set(0, 0, 2, 0)", x.set(Graphs.number(0, 0, 2, 0)), false);
        check.same("6: set(0, 0, 0, 2)", x.set(Graphs.number(0, 0, 0, 2)), false);
        check.same("6: state() then", x.state(), Graphs.number(4, 1, 1, 1));
        check.same("6: set(0)", x.set(0), true);
        check.same("6: state() then", x.state(), 0);
    }

    private static void recurrentIsFalseForWhatIsNoStableState() {
        for (Case each : CASES) {
            for (int number : Numbers.noStableStates(each.degrees())) {
                each.refused(check, "8: recurrent(" + number + ")", x -> x.recurrent(number));
            }
        }
    }

    private static void recurrentIsFalseForOtherStableStates() {
        for (Case each : otherStableStates()) {
            each.refused(check, "8: recurrent(" + each.state() + ")", x -> x.recurrent(each.state()));
        }
    }

    private static void recurrentIsTrueForTheLastRecurrentStates() {
        SandpileLab x = Graphs.lab(Graphs.ALL);
        for (int number : JUST_RECURRENT) {
            check.same("8: recurrent(" + number + ")", x.recurrent(number), true);
        }
        SandpileLab ring = Graphs.lab(Graphs.RING);
        check.same("8: recurrent(1, 0, 2, 2)", ring.recurrent(Graphs.number(1, 0, 2, 2)), true);
        check.same("8: recurrent(0, 2, 2, 2)", ring.recurrent(Graphs.number(0, 2, 2, 2)), true);
        for (Case each : CASES) {
            each.taken(check, "8: recurrent(full)", y -> y.recurrent(each.full()), m -> true);
        }
    }

    private static void oppositeIsBadForWhatIsNoStableState() {
        badForNoStableStates("11: opposite", SandpileLab::opposite);
    }

    private static void oppositeIsBadForOtherStableStates() {
        badForOtherStableStates("11: opposite", SandpileLab::opposite);
    }

    private static void oppositeTakesTheLastRecurrentStates() {
        for (int number : JUST_RECURRENT) {
            Case each = new Case(Graphs.ALL, number);
            each.asOnModel(check, "11: opposite(" + number + ")", x -> x.opposite(number), m -> m.opposite(number));
        }
        for (Case each : CASES) {
            int full = each.full();
            int neutral = Graphs.model(each.graph()).neutral();
            each.asOnModel(check, "11: opposite(full)", x -> x.opposite(full), m -> m.opposite(full));
            each.answers(check, "11: opposite(neutral)", x -> x.opposite(neutral), neutral);
        }
        int state = GREATEST_ORDER.state();
        GREATEST_ORDER.asOnModel(check, "11: opposite(" + state + ")", x -> x.opposite(state), m -> m.opposite(state));
    }

    private static void groupSumIsBadIfTheFirstIsNoStableState() {
        badForNoStableStates("12: with 0, groupSum of", (x, number) -> x.groupSum(number, 0));
        badForNoStableStates("12: with the state, groupSum of", (x, number) -> x.groupSum(number, x.state()));
    }

    private static void groupSumIsBadIfTheSecondIsNoStableState() {
        badForNoStableStates("12: groupSum of 0 with", (x, number) -> x.groupSum(0, number));
        badForNoStableStates("12: groupSum of the state with", (x, number) -> x.groupSum(x.state(), number));
    }

    private static void groupSumIsBadIfNeitherIsAStableState() {
        badForNoStableStates("12: groupSum twice of", (x, number) -> x.groupSum(number, number));
        // The two add up to 0, a stable state's number.
        badForNoStableStates("12: groupSum of its negative with", (x, number) -> x.groupSum(-number, number));
    }

    private static void groupSumTakesTheFirstAndLastStableStates() {
        for (Case each : CASES) {
            for (int p : firstAndLastStable(each)) {
                for (int q : firstAndLastStable(each)) {
                    String call = "12: groupSum(" + p + ", " + q + ")";
                    each.asOnModel(check, call, x -> x.groupSum(p, q), m -> m.groupSum(p, q));
                }
                each.answers(check, "12: groupSum(" + p + ", 0)", x -> x.groupSum(p, 0), p);
                each.answers(check, "12: groupSum(0, " + p + ")", x -> x.groupSum(0, p), p);
            }
        }
    }

    private static void orderOfIsOneForTheNeutralState() {
        for (int graph = 0; graph < Graphs.COUNT; graph++) {
            SandpileLab x = Graphs.lab(graph);
            check.same("13: orderOf(neutral) on graph " + graph, x.orderOf(Graphs.model(graph).neutral()), 1);
        }
    }

    private static void orderOfIsTheSmallest() {
        // By hand: any state twice is the empty one, the neutral one there, and so is any state 16 times.
        SandpileLab x = Graphs.lab(Graphs.LONE_TWOS);
        check.same("13: order() of lone places with degree 2", x.order(), 16);
        for (int number : new int[] {1, 8, 64, 512, 585}) {
            check.same("13: orderOf(" + number + ")", x.orderOf(number), 2);
        }
        int state = GREATEST_ORDER.state();
        GREATEST_ORDER.answers(check, "13: order()", y -> y.order(), 240);
        GREATEST_ORDER.answers(check, "13: orderOf(" + state + ")", y -> y.orderOf(state), 240);
    }

    private static void orderOfIsBadForWhatIsNoStableState() {
        badForNoStableStates("13: orderOf", SandpileLab::orderOf);
    }

    private static void orderOfIsBadForOtherStableStates() {
        badForOtherStableStates("13: orderOf", SandpileLab::orderOf);
    }

    private static void orderOfTakesTheLastRecurrentStates() {
        for (int number : JUST_RECURRENT) {
            Case each = new Case(Graphs.ALL, number);
            each.asOnModel(check, "13: orderOf(" + number + ")", x -> x.orderOf(number), m -> m.orderOf(number));
        }
        for (Case each : CASES) {
            int full = each.full();
            each.asOnModel(check, "13: orderOf(full)", x -> x.orderOf(full), m -> m.orderOf(full));
        }
    }

    private static void recurrentOfIsBadForWhatIsNoStableState() {
        badForNoStableStates("14: recurrentOf", SandpileLab::recurrentOf);
    }

    private static void recurrentOfTakesTheFirstAndLastStableStates() {
        for (Case each : CASES) {
            for (int number : firstAndLastStable(each)) {
                String call = "14: recurrentOf(" + number + ")";
                each.asOnModel(check, call, x -> x.recurrentOf(number), m -> m.recurrentOf(number));
            }
            int neutral = Graphs.model(each.graph()).neutral();
            each.answers(check, "14: recurrentOf(0)", x -> x.recurrentOf(0), neutral);
            each.answers(check, "14: recurrentOf(full)", x -> x.recurrentOf(each.full()), each.full());
        }
    }

    private static void recurrentOfIsAlwaysRecurrent() {
        for (int number : JUST_RECURRENT) {
            new Case(Graphs.ALL, 0).answers(check, "14: recurrentOf(" + number + ")", x -> x.recurrentOf(number), number);
        }
        SandpileLab x = Graphs.lab(Graphs.ALL);
        for (int number : JUST_NOT_RECURRENT) {
            int answer = x.recurrentOf(number);
            check.same("14: recurrentOf(" + number + ") is another", answer != number, true);
            check.same("14: recurrent(" + answer + ")", x.recurrent(answer), true);
        }
    }
}
