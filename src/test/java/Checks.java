/** Counts the checks of one group of tests and prints those that fail. */
final class Checks {
    private int passed;
    private int failed;

    void due(String call, long got, long want) {
        if (got == want) {
            passed++;
        } else {
            failed++;
            System.out.println(call + " answered " + got + ", due is " + want);
        }
    }

    void holds(String what, boolean itDoes) {
        due(what, itDoes ? 1 : 0, 1);
    }

    int passed() {
        return passed;
    }

    int failed() {
        return failed;
    }
}
