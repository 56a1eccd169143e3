/** Counts the answers that are not the ones that are due, and tells them. */
final class Due {
    private final String test;
    private int wrong = 0;
    private int asked = 0;

    Due(String test) {
        this.test = test;
    }

    void is(String call, int got, int want) {
        asked++;
        if (got != want) {
            wrong++;
            System.out.println(test + ": " + call + " answered " + got + ", due is " + want);
        }
    }

    /** Asks for the refusals of an object so far, -1 .. -6. */
    void refusals(String at, FloorPlans x, int nobody, int other, int state, int below, int room) {
        is(at + " count(11)", x.count(11), nobody);
        is(at + " count(12)", x.count(12), other);
        is(at + " count(13)", x.count(13), state);
        is(at + " count(14)", x.count(14), below);
        is(at + " count(15)", x.count(15), 0);
        is(at + " count(16)", x.count(16), room);
    }

    void end() {
        System.out.println(test + ": " + asked + " answers, " + wrong + " not as due");
        if (wrong != 0) {
            System.exit(1);
        }
    }
}
