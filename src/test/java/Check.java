/** Counts answers and tells those that are not the ones that are due. */
final class Check {
    private int asked = 0;
    private int wrong = 0;
    private String topic = "";

    void topic(String name) {
        topic = name;
    }

    void due(String call, long got, long want) {
        asked++;
        if (got == want) return;
        wrong++;
        System.out.println(topic + ": " + call + " answered " + got + ", due is " + want);
    }

    void holds(String what, boolean is) {
        due(what, is ? 1 : 0, 1);
    }

    long asked() {
        return asked;
    }

    boolean isClean() {
        return wrong == 0;
    }

    /** Ends the test's program: with exit code 1, if an answer was wrong. */
    void end() {
        System.out.println(asked + " answers asked for, " + wrong + " wrong");
        if (wrong != 0 || asked == 0) System.exit(1);
    }
}
