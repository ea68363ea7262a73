import java.util.Set;
import java.util.TreeSet;

/** Numbers that the document refuses: next to the last one taken, and far outside. */
final class Numbers {
    private static final int LEAST = Integer.MIN_VALUE;
    private static final int GREATEST = Integer.MAX_VALUE;

    // Beside the nearest ones: those that a narrower type, a mask or 4 * a would wrap round to a place.
    static final int[] NO_PLACES = {-1, 4, 5, -2, -3, -4, 7, 8, 16, 256, 65536, 1 << 30, (1 << 30) + 1,
        LEAST, LEAST + 1, GREATEST};

    static final int[] NO_SINK_COUNTS = {0, 3, -1, -2, 4, 5, 257, 65537, -255, -65535, (1 << 30) + 1,
        LEAST, LEAST + 1, LEAST + 2, GREATEST};

    static final int[] NO_GRAINS = {-1, 1001, -2, -1000, 1002, 1024, 2000, 65536, 65543, -65529, 1 << 30,
        LEAST, LEAST + 7, GREATEST};

    private Numbers() {
    }

    /** Numbers that are no stable state's in any graph. */
    static int[] noStates() {
        return new int[] {-1, -8, -576, 5, 40, 320, 2560, 4095, 4096, 4160, 9999, 1 << 24,
            LEAST, LEAST + 64, GREATEST};
    }

    /** Numbers that are no stable state's in a graph with these degrees. */
    static Set<Integer> noStableStates(int[] degrees) {
        Set<Integer> numbers = new TreeSet<>();
        for (int number : noStates()) {
            numbers.add(number);
        }
        int full = full(degrees);
        for (int place = 0; place < 4; place++) {
            int unit = unit(place);
            int othersFull = full - (degrees[place] - 1) * unit;
            for (int grains = degrees[place]; grains <= 7; grains++) {
                numbers.add(grains * unit);
                numbers.add(grains * unit + othersFull);
            }
        }
        // The last four digits alone are those of a stable state, of the full one too.
        for (int outside : new int[] {4096, -4096, 8192, 1 << 15, 1 << 16, -(1 << 16), 1 << 30, LEAST}) {
            numbers.add(outside);
            numbers.add(outside + full);
        }
        if (full > 0) {
            numbers.add(-full);
        }
        return numbers;
    }

    static int full(int[] degrees) {
        int full = 0;
        for (int place = 0; place < 4; place++) {
            full += (degrees[place] - 1) * unit(place);
        }
        return full;
    }

    /** What one grain at a place adds to a state's number. */
    static int unit(int place) {
        return new int[] {512, 64, 8, 1}[place];
    }
}
