/** What the groups of boundary tests share; each test has a new object. */
abstract class Boundary {
    static final Finding BEYOND = Finding.BEYOND;
    static final Finding FULL = Finding.FULL;
    static final Finding KIND = Finding.KIND;
    static final Finding NONE = Finding.NONE;
    static final Finding STATE = Finding.STATE;
    static final Finding MISSING = Finding.MISSING;
    static final Finding SIZE = Finding.SIZE;
    static final Finding OVER = Finding.OVER;

    static final int LEAST_INT = Integer.MIN_VALUE;
    static final int MOST_INT = Integer.MAX_VALUE;
    static final long LEAST = Long.MIN_VALUE;
    static final long MOST = Long.MAX_VALUE;

    final Run x = new Run();

    /** ANSWERS are one circle: 0, 0 with r 5. */
    static void threePoints(Run run) {
        run.due(0, "round", 3, 4, 0);
        run.due(1, "round", -3, 4, 0);
        run.due(2, "round", 5, 0, 0);
    }

    /** ANSWERS are eight, one by each of the SIGNS. */
    static void threeRounds(Run run) {
        run.due(0, "round", 0, 0, 1);
        run.due(1, "round", 5, 0, 2);
        run.due(2, "round", 1, 4, 1);
    }

    /** ANSWERS are four, by SIGNS 0, 4, 5, 6: 6, 6 with r 6; 1, 1 with 1; -2, 2 with 2; 3, -3 with 3. */
    static void threeStraights(Run run) {
        run.due(0, "straight", 0, 0);
        run.due(1, "straight", 1, 0);
        run.due(2, "straight", 2, 12);
    }
}
