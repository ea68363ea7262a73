/** Counts the answers that are not the ones due, and prints the first of them. */
final class Check {
    private static final int MOST_PRINTED = 100;

    private long wrong;
    private long looked;

    void same(String call, boolean got, boolean due) {
        same(call, got ? 1 : 0, due ? 1 : 0);
    }

    void same(String call, long got, long due) {
        looked++;
        if (got != due) {
            wrong++;
            if (wrong <= MOST_PRINTED) {
                System.out.println(call + " answered " + got + ", due is " + due);
            }
        }
    }

    void end() {
        System.out.println(looked + " answers looked at, " + wrong + " wrong");
        if (wrong != 0 || looked == 0) {
            System.exit(1);
        }
    }
}
