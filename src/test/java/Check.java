/** Counts the answers that were looked at and prints those that are not the ones that are due. */
final class Check {
    private int looked;
    private int wrong;

    void due(String call, long got, long want) {
        looked++;
        if (got != want) {
            wrong++;
            if (wrong <= 40) {
                System.out.println(call + " answered " + got + ", due is " + want);
            }
        }
    }

    void holds(String what, boolean so) {
        looked++;
        if (!so) {
            wrong++;
            if (wrong <= 40) {
                System.out.println("does not hold: " + what);
            }
        }
    }

    int wrongs() {
        return wrong;
    }

    void close(String name) {
        System.out.println(name + ": " + looked + " looked at, " + wrong + " wrong");
        if (wrong != 0) {
            System.exit(1);
        }
    }
}
