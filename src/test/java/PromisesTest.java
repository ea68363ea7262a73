/** One method for each promise: ordinary inputs, the edges that the document names, wrong inputs. */
public final class PromisesTest {
    private static final Check check = new Check();

    public static void main(String[] args) {
        promise1NewObject();
        promise2Edge();
        promise3Sink();
        promise4Drop();
        promise5State();
        promise6Set();
        promise7Degree();
        promise8Recurrent();
        promise9Order();
        promise10Neutral();
        promise11Opposite();
        promise12GroupSum();
        promise13OrderOf();
        promise14RecurrentOf();
        promise15RefusedCallsChangeNothing();
        check.end();
    }

    private static void promise1NewObject() {
        SandpileLab x = new SandpileLab();
        check.same("1: state()", x.state(), 0);
        for (int a = 0; a < 4; a++) {
            check.same("1: degree(" + a + ")", x.degree(a), 1);
        }
        SandpileLab other = Graphs.lab(Graphs.ALL);
        other.drop(0, 3);
        check.same("1: state() beside another object", x.state(), 0);
        check.same("1: degree(0) beside another object", x.degree(0), 1);
    }

    private static void promise2Edge() {
        for (int a = 0; a < 4; a++) {
            for (int b = 0; b < 4; b++) {
                String call = "2: edge(" + a + ", " + b + ", ";
                SandpileLab x = new SandpileLab();
                check.same(call + "true)", x.edge(a, b, true), a != b);
                check.same(call + "true) again", x.edge(a, b, true), a != b);
                for (int c = 0; c < 4; c++) {
                    boolean touched = a != b && (c == a || c == b);
                    check.same(call + "true), degree(" + c + ")", x.degree(c), touched ? 2 : 1);
                }
                check.same(call + "false), turned round", x.edge(b, a, false), a != b);
                check.same(call + "false) again", x.edge(a, b, false), a != b);
                for (int c = 0; c < 4; c++) {
                    check.same(call + "false), degree(" + c + ")", x.degree(c), 1);
                }
            }
        }
        SandpileLab x = Graphs.lab(Graphs.RING);
        x.set(Graphs.number(2, 1, 0, 2));
        x.edge(0, 2, true);
        check.same("2: state() after a new edge", x.state(), 0);
        x.set(Graphs.number(3, 1, 0, 2));
        x.edge(0, 2, true);
        check.same("2: state() after an edge that was there", x.state(), 0);
        x.set(Graphs.number(3, 1, 0, 2));
        x.edge(2, 0, false);
        check.same("2: state() after an edge is gone", x.state(), 0);
        x.set(Graphs.number(2, 1, 0, 2));
        x.edge(3, 1, false);
        check.same("2: state() after an edge that was not there", x.state(), 0);
        for (int wrong : Numbers.NO_PLACES) {
            for (int a = 0; a < 4; a++) {
                check.same("2: edge(" + wrong + ", " + a + ")", x.edge(wrong, a, true), false);
                check.same("2: edge(" + a + ", " + wrong + ")", x.edge(a, wrong, true), false);
                check.same("2: edge(" + a + ", " + wrong + ") off", x.edge(a, wrong, false), false);
            }
            check.same("2: edge(" + wrong + " twice)", x.edge(wrong, wrong, true), false);
        }
    }

    private static void promise3Sink() {
        for (int a = 0; a < 4; a++) {
            SandpileLab x = new SandpileLab();
            for (int count : new int[] {2, 2, 1, 1, 2}) {
                check.same("3: sink(" + a + ", " + count + ")", x.sink(a, count), true);
                for (int c = 0; c < 4; c++) {
                    check.same("3: degree(" + c + ") then", x.degree(c), c == a ? count : 1);
                }
            }
            for (int count : new int[] {0, 3, -1, Integer.MIN_VALUE, Integer.MAX_VALUE}) {
                check.same("3: sink(" + a + ", " + count + ")", x.sink(a, count), false);
            }
        }
        SandpileLab x = Graphs.lab(Graphs.RING);
        x.set(Graphs.number(2, 1, 0, 2));
        x.sink(1, 2);
        check.same("3: state() after one more edge to the sink", x.state(), 0);
        x.set(Graphs.number(2, 3, 0, 2));
        x.sink(1, 2);
        check.same("3: state() after the same count", x.state(), 0);
        x.set(Graphs.number(2, 1, 0, 2));
        x.sink(1, 1);
        check.same("3: state() after one less", x.state(), 0);
        for (int wrong : Numbers.NO_PLACES) {
            check.same("3: sink(" + wrong + ", 1)", x.sink(wrong, 1), false);
            check.same("3: sink(" + wrong + ", 2)", x.sink(wrong, 2), false);
        }
    }

    private static void promise4Drop() {
        SandpileLab x = Graphs.lab(Graphs.RING);
        check.same("4: drop(0, 2)", x.drop(0, 2), 0);
        check.same("4: state() then", x.state(), Graphs.number(2, 0, 0, 0));
        check.same("4: drop(0, 1)", x.drop(0, 1), 1);
        check.same("4: state() then", x.state(), Graphs.number(0, 1, 0, 1));
        x.set(Graphs.number(2, 2, 2, 2));
        check.same("4: drop(1, 0)", x.drop(1, 0), 0);
        check.same("4: state() then", x.state(), Graphs.number(2, 2, 2, 2));
        // 0 topples, then 1 and 3, then 2 with 4 grains: (2, 1, 1, 1).
        check.same("4: drop(0, 1) on the full ring", x.drop(0, 1), 4);
        check.same("4: state() then", x.state(), Graphs.number(2, 1, 1, 1));
        SandpileLab lone = new SandpileLab();
        check.same("4: drop(2, 1000) with no edges", lone.drop(2, 1000), 1000);
        check.same("4: state() then", lone.state(), 0);
        lone.sink(2, 2);
        check.same("4: drop(2, 999) with two edges to the sink", lone.drop(2, 999), 499);
        check.same("4: state() then", lone.state(), Graphs.number(0, 0, 1, 0));
        for (int wrong : Numbers.NO_PLACES) {
            check.same("4: drop(" + wrong + ", 1)", x.drop(wrong, 1), SandpileLab.BAD);
        }
        for (int wrong : new int[] {-1, 1001, Integer.MIN_VALUE, Integer.MAX_VALUE}) {
            check.same("4: drop(0, " + wrong + ")", x.drop(0, wrong), SandpileLab.BAD);
        }
    }

    private static void promise5State() {
        SandpileLab x = Graphs.lab(Graphs.ALL);
        x.drop(0, 4);
        check.same("5: state()", x.state(), 512 * 4);
        x.drop(1, 3);
        check.same("5: state()", x.state(), 512 * 4 + 64 * 3);
        x.drop(2, 2);
        check.same("5: state()", x.state(), 512 * 4 + 64 * 3 + 8 * 2);
        x.drop(3, 1);
        check.same("5: state()", x.state(), 512 * 4 + 64 * 3 + 8 * 2 + 1);
        check.same("5: state() again", x.state(), 512 * 4 + 64 * 3 + 8 * 2 + 1);
        // Questions about other states leave the object's own state alone.
        x.recurrent(0);
        x.order();
        x.neutral();
        x.opposite(Graphs.number(4, 4, 4, 4));
        x.groupSum(Graphs.number(4, 4, 4, 4), Graphs.number(1, 2, 3, 4));
        x.orderOf(Graphs.number(4, 4, 4, 4));
        x.recurrentOf(0);
        x.degree(2);
        check.same("5: state() after questions", x.state(), 512 * 4 + 64 * 3 + 8 * 2 + 1);
    }

    private static void promise6Set() {
        SandpileLab x = Graphs.lab(Graphs.ALL);
        check.same("6: set(full)", x.set(Graphs.number(4, 4, 4, 4)), true);
        check.same("6: state() then", x.state(), Graphs.number(4, 4, 4, 4));
        check.same("6: set(0)", x.set(0), true);
        check.same("6: state() then", x.state(), 0);
        check.same("6: set(4321)", x.set(Graphs.number(4, 3, 2, 1)), true);
        check.same("6: state() then", x.state(), Graphs.number(4, 3, 2, 1));
        for (int unit = 1; unit <= 512; unit *= 8) {
            check.same("6: set(4 * " + unit + ")", x.set(4 * unit), true);
            check.same("6: set(5 * " + unit + ")", x.set(5 * unit), false);
            check.same("6: set(7 * " + unit + ")", x.set(7 * unit), false);
            check.same("6: state() then", x.state(), 4 * unit);
        }
        for (int wrong : Numbers.noStates()) {
            check.same("6: set(" + wrong + ")", x.set(wrong), false);
        }
        SandpileLab y = new SandpileLab();
        y.sink(1, 2);
        check.same("6: set(64) with degree 2", y.set(64), true);
        check.same("6: set(128) with degree 2", y.set(128), false);
        check.same("6: set(512) with degree 1", y.set(512), false);
        check.same("6: state() then", y.state(), 64);
    }

    private static void promise7Degree() {
        SandpileLab x = Graphs.lab(Graphs.ALL);
        for (int a = 0; a < 4; a++) {
            check.same("7: degree(" + a + ") with all edges", x.degree(a), 5);
        }
        x.edge(1, 3, false);
        x.sink(0, 1);
        check.same("7: degree(0)", x.degree(0), 4);
        check.same("7: degree(1)", x.degree(1), 4);
        check.same("7: degree(2)", x.degree(2), 5);
        check.same("7: degree(3)", x.degree(3), 4);
        for (int wrong : Numbers.NO_PLACES) {
            check.same("7: degree(" + wrong + ")", x.degree(wrong), SandpileLab.BAD);
        }
    }

    private static void promise8Recurrent() {
        SandpileLab x = Graphs.lab(Graphs.PAIR);
        check.same("8: recurrent(0, 0)", x.recurrent(0), false);
        check.same("8: recurrent(0, 1)", x.recurrent(64), true);
        check.same("8: recurrent(1, 0)", x.recurrent(512), true);
        check.same("8: recurrent(1, 1)", x.recurrent(576), true);
        check.same("8: recurrent(2, 0)", x.recurrent(1024), false);
        check.same("8: recurrent(0, 0, 1)", x.recurrent(8), false);
        check.same("8: recurrent(0, 1, 0, 1)", x.recurrent(65), false);
        for (int wrong : Numbers.noStates()) {
            check.same("8: recurrent(" + wrong + ")", x.recurrent(wrong), false);
        }
        // A number above 4095 is no state, though its low digits are a recurrent one.
        check.same("8: recurrent(4096 + 576)", x.recurrent(4096 + 576), false);
        check.same("8: recurrent(576 - 4096)", x.recurrent(576 - 4096), false);
        x.sink(0, 2);
        // Degrees 3 and 2: 5 spanning trees.
        check.same("8: recurrent(0, 0)", x.recurrent(0), false);
        check.same("8: recurrent(0, 1)", x.recurrent(64), true);
        check.same("8: recurrent(1, 0)", x.recurrent(512), true);
        check.same("8: recurrent(1, 1)", x.recurrent(576), true);
        check.same("8: recurrent(2, 0)", x.recurrent(1024), true);
        check.same("8: recurrent(2, 1)", x.recurrent(1088), true);
    }

    private static void promise9Order() {
        SandpileLab x = new SandpileLab();
        check.same("9: order() of a new object", x.order(), 1);
        x.sink(3, 2);
        check.same("9: order() with one place of degree 2", x.order(), 2);
        check.same("9: order() of a pair", Graphs.lab(Graphs.PAIR).order(), 3);
        check.same("9: order() of the ring", Graphs.lab(Graphs.RING).order(), 45);
        check.same("9: order() of all edges", Graphs.lab(Graphs.ALL).order(), 432);
    }

    private static void promise10Neutral() {
        SandpileLab x = Graphs.lab(Graphs.PAIR);
        check.same("10: neutral() of a pair", x.neutral(), 576);
        x.drop(0, 1);
        check.same("10: neutral() with a grain there", x.neutral(), 576);
        x.edge(0, 1, false);
        check.same("10: neutral() with no edges", x.neutral(), 0);
        check.same("10: neutral() of the ring", Graphs.lab(Graphs.RING).neutral(), Graphs.number(2, 2, 2, 2));
    }

    private static void promise11Opposite() {
        SandpileLab x = Graphs.lab(Graphs.PAIR);
        check.same("11: opposite(1, 1)", x.opposite(576), 576);
        check.same("11: opposite(1, 0)", x.opposite(512), 64);
        check.same("11: opposite(0, 1)", x.opposite(64), 512);
        check.same("11: opposite of a stable state that is not recurrent", x.opposite(0), SandpileLab.BAD);
        check.same("11: opposite of a state that is not stable", x.opposite(1024), SandpileLab.BAD);
        for (int wrong : Numbers.noStates()) {
            check.same("11: opposite(" + wrong + ")", x.opposite(wrong), SandpileLab.BAD);
        }
    }

    private static void promise12GroupSum() {
        SandpileLab x = Graphs.lab(Graphs.PAIR);
        check.same("12: (0, 0) + (0, 0)", x.groupSum(0, 0), 0);
        check.same("12: (1, 0) + (0, 0)", x.groupSum(512, 0), 512);
        check.same("12: (1, 0) + (0, 1)", x.groupSum(512, 64), 576);
        check.same("12: (1, 0) + (1, 0)", x.groupSum(512, 512), 64);
        check.same("12: (1, 1) + (1, 0)", x.groupSum(576, 512), 512);
        check.same("12: (1, 1) + (1, 1)", x.groupSum(576, 576), 576);
        for (int wrong : Numbers.noStates()) {
            check.same("12: groupSum(" + wrong + ", 0)", x.groupSum(wrong, 0), SandpileLab.BAD);
            check.same("12: groupSum(0, " + wrong + ")", x.groupSum(0, wrong), SandpileLab.BAD);
        }
        check.same("12: groupSum(1024, 64)", x.groupSum(1024, 64), SandpileLab.BAD);
        check.same("12: groupSum(64, 1024)", x.groupSum(64, 1024), SandpileLab.BAD);
        check.same("12: groupSum(8, 8)", x.groupSum(8, 8), SandpileLab.BAD);
    }

    private static void promise13OrderOf() {
        SandpileLab x = Graphs.lab(Graphs.PAIR);
        check.same("13: orderOf(1, 1)", x.orderOf(576), 1);
        check.same("13: orderOf(1, 0)", x.orderOf(512), 3);
        check.same("13: orderOf(0, 1)", x.orderOf(64), 3);
        check.same("13: orderOf of a stable state that is not recurrent", x.orderOf(0), SandpileLab.BAD);
        check.same("13: orderOf of a state that is not stable", x.orderOf(1024), SandpileLab.BAD);
        for (int wrong : Numbers.noStates()) {
            check.same("13: orderOf(" + wrong + ")", x.orderOf(wrong), SandpileLab.BAD);
        }
    }

    private static void promise14RecurrentOf() {
        SandpileLab x = Graphs.lab(Graphs.PAIR);
        check.same("14: recurrentOf(0, 0)", x.recurrentOf(0), 576);
        check.same("14: recurrentOf(1, 0)", x.recurrentOf(512), 512);
        check.same("14: recurrentOf(0, 1)", x.recurrentOf(64), 64);
        check.same("14: recurrentOf(1, 1)", x.recurrentOf(576), 576);
        check.same("14: recurrentOf(2, 0)", x.recurrentOf(1024), SandpileLab.BAD);
        for (int wrong : Numbers.noStates()) {
            check.same("14: recurrentOf(" + wrong + ")", x.recurrentOf(wrong), SandpileLab.BAD);
        }
    }

    private static void promise15RefusedCallsChangeNothing() {
        SandpileLab x = Graphs.lab(Graphs.RING);
        x.sink(2, 2);
        int state = Graphs.number(1, 2, 3, 0);
        x.set(state);
        x.edge(1, 1, true);
        sameAsBefore("edge(1, 1, true)", x, state);
        x.edge(1, 1, false);
        sameAsBefore("edge(1, 1, false)", x, state);
        for (int wrong : Numbers.NO_PLACES) {
            x.edge(0, wrong, true);
            x.edge(wrong, 0, false);
            x.sink(wrong, 2);
            x.drop(wrong, 7);
            x.degree(wrong);
            sameAsBefore("calls with place " + wrong, x, state);
        }
        for (int wrong : new int[] {-1, 0, 3, 4}) {
            x.sink(0, wrong);
            sameAsBefore("sink(0, " + wrong + ")", x, state);
        }
        for (int wrong : new int[] {-1, 1001}) {
            x.drop(0, wrong);
            sameAsBefore("drop(0, " + wrong + ")", x, state);
        }
        for (int wrong : Numbers.noStates()) {
            x.set(wrong);
            x.recurrent(wrong);
            x.opposite(wrong);
            x.groupSum(wrong, 0);
            x.groupSum(0, wrong);
            x.orderOf(wrong);
            x.recurrentOf(wrong);
            sameAsBefore("calls with the state " + wrong, x, state);
        }
    }

    private static void sameAsBefore(String call, SandpileLab x, int state) {
        check.same("15: state() after " + call, x.state(), state);
        check.same("15: degree(0) after " + call, x.degree(0), 3);
        check.same("15: degree(1) after " + call, x.degree(1), 3);
        check.same("15: degree(2) after " + call, x.degree(2), 4);
        check.same("15: degree(3) after " + call, x.degree(3), 3);
    }
}
