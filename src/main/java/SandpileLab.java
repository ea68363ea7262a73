/** Grains on a small graph that topple into a sink. */
public final class SandpileLab {
    public static final int BAD = -1;

    private static final int PLACES = 4;
    private static final int PAIRS = 16;
    private static final int MOST_SINK_EDGES = 2;
    private static final int MOST_DROPPED = 1000;
    private static final int STATE_NUMBERS = 4096;
    private static final int DIGIT_BITS = 3;
    private static final int DIGIT_MASK = 7;

    // Every toppling sends a grain or two into the sink, so there are never more
    // topplings than grains, some 1016 at most: this bound is never reached.
    private static final int MOST_ROUNDS = 1000000;

    // Both directions of an edge are kept, so that a place's neighbours stand in one row.
    private final boolean[] joined = new boolean[PAIRS];
    private final int[] sinkEdges = new int[PLACES];

    // Scratch room: what it holds means nothing between two public calls.
    private final int[] pile = new int[PLACES];

    private int current;

    public SandpileLab() {
        for (int place = 0; place < PLACES; place++) {
            sinkEdges[place] = 1;
        }
    }

    public boolean edge(int a, int b, boolean there) {
        if (!isPlace(a) || !isPlace(b) || a == b) {
            return false;
        }
        joined[a * PLACES + b] = there;
        joined[b * PLACES + a] = there;
        current = 0;
        return true;
    }

    public boolean sink(int a, int count) {
        if (!isPlace(a) || count < 1 || count > MOST_SINK_EDGES) {
            return false;
        }
        sinkEdges[a] = count;
        current = 0;
        return true;
    }

    public int drop(int a, int grains) {
        if (!isPlace(a) || grains < 0 || grains > MOST_DROPPED) {
            return BAD;
        }
        clearPile();
        addToPile(current);
        pile[a] += grains;
        int topplings = settlePile();
        current = pileNumber();
        return topplings;
    }

    public int state() {
        return current;
    }

    public boolean set(int state) {
        if (!isStable(state)) {
            return false;
        }
        current = state;
        return true;
    }

    public int degree(int a) {
        return isPlace(a) ? countEdges(a) : BAD;
    }

    public boolean recurrent(int state) {
        return isRecurrent(state);
    }

    public int order() {
        int count = 0;
        for (int number = 0; number < STATE_NUMBERS; number++) {
            if (isRecurrent(number)) {
                count++;
            }
        }
        return count;
    }

    public int neutral() {
        return findNeutral();
    }

    public int opposite(int state) {
        if (!isRecurrent(state)) {
            return BAD;
        }
        // The multiples of a state go round through the neutral one: the multiple
        // just before it lacks exactly one more of the state, so it is the opposite.
        int neutralState = findNeutral();
        int before = neutralState;
        int multiple = state;
        for (int k = 1; k < STATE_NUMBERS && multiple != neutralState; k++) {
            before = multiple;
            multiple = addStates(multiple, state);
        }
        return before;
    }

    public int groupSum(int p, int q) {
        if (!isStable(p) || !isStable(q)) {
            return BAD;
        }
        return addStates(p, q);
    }

    public int orderOf(int state) {
        if (!isRecurrent(state)) {
            return BAD;
        }
        int neutralState = findNeutral();
        int multiple = state;
        int k = 1;
        // No state's order is above the number of recurrent states.
        while (k < STATE_NUMBERS && multiple != neutralState) {
            multiple = addStates(multiple, state);
            k++;
        }
        return k;
    }

    public int recurrentOf(int state) {
        if (!isStable(state)) {
            return BAD;
        }
        int neutralState = findNeutral();
        return addStates(neutralState, state);
    }

    private static boolean isPlace(int a) {
        return a >= 0 && a < PLACES;
    }

    private static int grainsAt(int number, int place) {
        return (number >> (DIGIT_BITS * (PLACES - 1 - place))) & DIGIT_MASK;
    }

    private int countEdges(int place) {
        int count = sinkEdges[place];
        for (int other = 0; other < PLACES; other++) {
            if (joined[place * PLACES + other]) {
                count++;
            }
        }
        return count;
    }

    private boolean isStable(int number) {
        if (number < 0 || number >= STATE_NUMBERS) {
            return false;
        }
        for (int place = 0; place < PLACES; place++) {
            if (grainsAt(number, place) >= countEdges(place)) {
                return false;
            }
        }
        return true;
    }

    // Dhar's burning test: a stable state is recurrent iff it comes back to itself
    // when the sink gives each place one grain along each of its edges.
    private boolean isRecurrent(int number) {
        if (!isStable(number)) {
            return false;
        }
        clearPile();
        addToPile(number);
        for (int place = 0; place < PLACES; place++) {
            pile[place] += sinkEdges[place];
        }
        settlePile();
        return pileNumber() == number;
    }

    // Twice the full state less what that comes to can be toppled away as a whole, so
    // adding it changes no recurrent state; and it has at least the full state's grains
    // at every place, so what it comes to is recurrent. Only the neutral state is both.
    private int findNeutral() {
        for (int place = 0; place < PLACES; place++) {
            pile[place] = 2 * (countEdges(place) - 1);
        }
        settlePile();
        for (int place = 0; place < PLACES; place++) {
            pile[place] = 2 * (countEdges(place) - 1) - pile[place];
        }
        settlePile();
        return pileNumber();
    }

    private int addStates(int p, int q) {
        clearPile();
        addToPile(p);
        addToPile(q);
        settlePile();
        return pileNumber();
    }

    private void clearPile() {
        for (int place = 0; place < PLACES; place++) {
            pile[place] = 0;
        }
    }

    private void addToPile(int number) {
        for (int place = 0; place < PLACES; place++) {
            pile[place] += grainsAt(number, place);
        }
    }

    private int pileNumber() {
        int number = 0;
        for (int place = 0; place < PLACES; place++) {
            number = (number << DIGIT_BITS) + pile[place];
        }
        return number;
    }

    private int settlePile() {
        int topplings = 0;
        boolean moved = true;
        for (int round = 0; round < MOST_ROUNDS && moved; round++) {
            moved = false;
            for (int place = 0; place < PLACES; place++) {
                int degree = countEdges(place);
                if (pile[place] >= degree) {
                    topple(place, degree);
                    topplings++;
                    moved = true;
                }
            }
        }
        return topplings;
    }

    private void topple(int place, int degree) {
        pile[place] -= degree;
        for (int other = 0; other < PLACES; other++) {
            if (joined[place * PLACES + other]) {
                pile[other]++;
            }
        }
    }
}
