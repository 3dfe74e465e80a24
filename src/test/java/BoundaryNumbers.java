/** Boundary cases of promises 27 to 34: numbers in spots. */
final class BoundaryNumbers extends Boundary {
    private static final long HALF = 1L << 62;
    /** Every second bit: twice that has just the bits that it hasn't. */
    private static final long THIRD = 0x5555555555555555L;

    // ---- 27: put

    @Said(where = "Promise 27", words = "A SPOT holds x (which 0), y, r of the k-th ANSWER: 1.")
    void putOfFirstAndLast() {
        threeRounds(x);
        x.due(1, "put", 0, 0, 0);
        x.due(1, "put", 1, 0, 1);
        x.due(1, "put", 5, 0, 2);
        x.spot(0, 1903, 8, 3162, 766);
        x.spot(1, 576, -1, 3162, 383);
        x.spot(5, 1089, 40, 3162, 766);
        x.due(1, "put", 0, 7, 2);
        x.due(-1, "compare", 0, 5);
        // what it holds stays when ANSWERS go
        x.due(3, "prune", 0);
        x.spot(5, 1089, 40, 3162, 766);
        x.due(3, "count", 5);
    }

    @Said(where = "Promise 27", words = "BEYOND.")
    void putBeyond() {
        x.beyond(0, 0, 5, "put", 0, 0, 0);
        threePoints(x);
        x.beyond(0, 0, 5, "put", 0, 0, 0);
        x.beyond(2, 0, 2, "put", 0, 0, 0);
        x.refused(BEYOND, "put", 0, 99, 3);
        x.due(0, "count", 5);
    }

    @Said(where = "Promise 27", words = "STATE, NONE likewise.")
    void putState() {
        x.due(1, "ratio", 0, 7, 1);
        x.refused(STATE, "put", 0, 0, 0);
        threePoints(x);
        x.due(1, "put", 1, 0, 2);
        int[][] orders = {{2, 0, 1}, {0, 2, 1}, {1, 0, 2}};
        for (int[] order : orders) {
            x.due(1, "three", order[0], order[1], order[2]);
            x.due(2, "drop");
            x.refused(STATE, "put", 0, 0, 0);
            x.due(2, "round", 5, 0, 0);
        }
        x.spot(0, 7, 0, 0, 1);
        x.spot(1, 5, 0, 0, 1);
    }

    @Said(where = "Promise 27", words = "STATE, NONE likewise.")
    void putNone() {
        threeStraights(x);
        long[] outside = {-1, 4, LEAST_INT, MOST_INT};
        for (long k : outside) {
            x.refused(NONE, "put", 0, k, 0);
        }
        x.due(1, "put", 0, 3, 2);
        x.spot(0, 3, 0, 0, 1);
        x.due(12, "change", 2, 5, 0);
        x.refused(NONE, "put", 0, 0, 0);
        x.spot(0, 3, 0, 0, 1);
    }

    // ---- 28, 29: ratio, root

    @Said(where = "Promise 28", words = "A SPOT holds p by m: 1.")
    void ratioOfTheUtmost() {
        int most = 1000000;
        long[][] due = {{most, 1, most, 1}, {-most, 1, -most, 1}, {1, most, 1, most}, {1, -most, -1, most},
            {most, -most, -1, 1}, {-most, -most, 1, 1}, {most - 1, most, most - 1, most}, {0, -most, 0, 1}, {-6, 4, -3, 2}};
        for (long[] row : due) {
            x.due(1, "ratio", 5, row[0], row[1]);
            x.spot(5, row[2], 0, 0, row[3]);
        }
    }

    @Said(where = "Promise 28", words = "BEYOND: also m 0; p, m -1000000 to 1000000.")
    void ratioBeyond() {
        x.due(1, "ratio", 0, 2, 3);
        x.beyond(0, 0, 5, "ratio", 0, 1, 1);
        x.beyond(1, -1000000, 1000000, "ratio", 0, 1, 1);
        x.beyond(2, -1000000, 1000000, "ratio", 0, 1, 1);
        x.refused(BEYOND, "ratio", 0, 1, 0);
        x.refused(BEYOND, "ratio", 0, 0, 0);
        x.refused(BEYOND, "ratio", 1, 1, 0);
        x.spot(0, 2, 0, 0, 3);
        x.due(1, "count", 5);
    }

    @Said(where = "Promise 29", words = "A SPOT holds the root of n (0 to 1000000): 1.")
    void rootOfTheUtmost() {
        int[][] whole = {{0, 0}, {1, 1}, {4, 2}, {998 * 998, 998}, {999 * 999, 999}, {1000000, 1000}};
        for (int[] row : whole) {
            x.due(1, "root", 5, row[0]);
            x.spot(5, row[1], 0, 0, 1);
        }
        int[][] rooted = {{2, 1, 2}, {3, 1, 3}, {8, 2, 2}, {999999, 3, 111111}, {999983, 1, 999983},
            {997 * 991, 1, 997 * 991}, {707 * 707 * 2, 707, 2}, {99 * 99 * 101, 99, 101}, {524288, 512, 2}};
        for (int[] row : rooted) {
            x.due(1, "root", 0, row[0]);
            x.spot(0, 0, row[1], row[2], 1);
        }
    }

    @Said(where = "Promise 29", words = "BEYOND.")
    void rootBeyond() {
        x.due(1, "root", 0, 2);
        x.beyond(0, 0, 5, "root", 0, 1);
        x.beyond(1, 0, 1000000, "root", 0, 1);
        x.spot(0, 0, 1, 2, 1);
        x.due(1, "count", 5);
    }

    // ---- 30: work

    private static final String WORK = "A SPOT holds what comes of two SPOTS (s, t; also the same), what 0 their sum, 1 difference, "
        + "2 product, 3 quotient: 1.";

    @Said(where = "Promise 30", words = WORK)
    void workWithTheSameSpot() {
        int[][] due = {{10, 1}, {0, 1}, {25, 1}, {1, 1}};
        for (int what = 0; what < 4; what++) {
            x.due(1, "ratio", 3, 5, 1);
            x.due(1, "work", 3, 3, 3, what);
            x.spot(3, due[what][0], 0, 0, due[what][1]);
        }
        // into s, into t
        x.due(1, "ratio", 0, 1, 2);
        x.due(1, "ratio", 5, 1, 3);
        x.due(1, "work", 0, 0, 5, 1);
        x.spot(0, 1, 0, 0, 6);
        x.due(1, "work", 5, 0, 5, 3);
        x.spot(5, 1, 0, 0, 2);
        x.spot(0, 1, 0, 0, 6);
        x.due(3, "count", 5);
    }

    @Said(where = "Promise 30", words = WORK)
    void workWithTheSameRoot() {
        long[][] due = {{6, 4, 2, 1}, {0, 0, 0, 1}, {17, 12, 2, 1}, {1, 0, 0, 1}};
        for (int what = 0; what < 4; what++) {
            x.hold(0, 3, 2, 2, 1);
            x.due(1, "work", 0, 0, 0, what);
            x.spot(0, due[what][0], due[what][1], due[what][2], due[what][3]);
        }
    }

    private static final String WORKED = "With p, q, m of s and u, v, w of t, d of both: p w + u m, q w + v m by m w; p w - u m, "
        + "q w - v m by m w; p u + q v d, p v + q u by m w; (p u - q v d) w, (q u - p v) w by m (u u - v v d); in lowest "
        + "terms, as NUMBERS are.";

    @Said(where = "Promise 30", words = WORKED)
    void workInLowestTerms() {
        // (1 + 2 root 3) by 5 and (4 - root 3) by 10
        x.hold(0, 1, 2, 3, 5);
        x.hold(1, 4, -1, 3, 10);
        long[][] due = {{6, 3, 3, 10}, {-2, 5, 3, 10}, {-2, 7, 3, 50}, {20, 18, 3, 13}};
        for (int what = 0; what < 4; what++) {
            x.due(1, "work", 2, 0, 1, what);
            x.spot(2, due[what][0], due[what][1], due[what][2], due[what][3]);
        }
    }

    @Said(where = "Promise 30", words = WORKED)
    void workOfARootAndARatio() {
        // 2 by 3 and root 5: d is that of the one that has it
        x.hold(0, 2, 0, 0, 3);
        x.hold(1, 0, 1, 5, 1);
        long[][] due = {{2, 3, 5, 3}, {2, -3, 5, 3}, {0, 2, 5, 3}, {0, 2, 5, 15}};
        long[][] other = {{2, 3, 5, 3}, {-2, 3, 5, 3}, {0, 2, 5, 3}, {0, 3, 5, 2}};
        for (int what = 0; what < 4; what++) {
            x.due(1, "work", 2, 0, 1, what);
            x.spot(2, due[what][0], due[what][1], due[what][2], due[what][3]);
            x.due(1, "work", 2, 1, 0, what);
            x.spot(2, other[what][0], other[what][1], other[what][2], other[what][3]);
        }
    }

    @Said(where = "Promise 30", words = WORKED)
    void workWithZero() {
        x.hold(0, 0, 0, 0, 1);
        x.hold(1, 1, 1, 2, 3);
        x.due(1, "work", 2, 0, 1, 0);
        x.spot(2, 1, 1, 2, 3);
        x.due(1, "work", 2, 0, 1, 1);
        x.spot(2, -1, -1, 2, 3);
        x.due(1, "work", 2, 1, 0, 2);
        x.spot(2, 0, 0, 0, 1);
        x.due(1, "work", 2, 0, 1, 3);
        x.spot(2, 0, 0, 0, 1);
        // the roots go, and d with them
        x.hold(3, 5, -1, 2, 3);
        x.due(1, "work", 2, 1, 3, 0);
        x.spot(2, 2, 0, 0, 1);
    }

    @Said(where = "Promise 30", words = "BEYOND: spots, what.")
    void workBeyond() {
        for (int spot = 0; spot < 6; spot++) {
            x.due(1, "ratio", spot, spot + 1, 1);
        }
        x.beyond(0, 0, 5, "work", 0, 1, 2, 0);
        x.beyond(1, 0, 5, "work", 0, 1, 2, 0);
        x.beyond(2, 0, 5, "work", 0, 1, 2, 0);
        x.beyond(3, 0, 3, "work", 0, 1, 2, 0);
        for (int spot = 0; spot < 6; spot++) {
            x.spot(spot, spot + 1, 0, 0, 1);
        }
        x.due(1, "work", 5, 5, 5, 3);
        x.spot(5, 1, 0, 0, 1);
    }

    @Said(where = "Promise 30", words = "MISSING: s or t holds nothing.")
    void workMissing() {
        x.due(1, "ratio", 0, 1, 1);
        for (int what = 0; what < 4; what++) {
            x.refused(MISSING, "work", 0, 1, 1, what);
            x.refused(MISSING, "work", 0, 0, 1, what);
            x.refused(MISSING, "work", 0, 1, 0, what);
        }
        // the SPOT that is to hold it may hold nothing
        x.due(1, "work", 1, 0, 0, 0);
        x.spot(1, 2, 0, 0, 1);
        x.due(1, "clear", 0);
        x.refused(MISSING, "work", 1, 0, 1, 0);
    }

    @Said(where = "Promise 30", words = "KIND: both are ROOTS, of unlike d.")
    void workKind() {
        x.due(1, "root", 0, 2);
        x.due(1, "root", 1, 3);
        x.due(1, "root", 2, 8);
        x.due(1, "root", 3, 9);
        for (int what = 0; what < 4; what++) {
            x.refused(KIND, "work", 5, 0, 1, what);
            x.refused(KIND, "work", 5, 1, 0, what);
            // root 8 is 2 root 2; root 9 is a RATIO
            x.due(1, "work", 5, 0, 2, what);
            x.due(1, "work", 5, 0, 3, what);
            x.due(1, "work", 5, 3, 1, what);
        }
    }

    @Said(where = "Promise 30", words = "STATE: a quotient by 0.")
    void workState() {
        x.due(1, "ratio", 0, 0, 5);
        x.due(1, "root", 1, 2);
        x.due(1, "ratio", 2, 1, 1);
        for (int s = 0; s < 3; s++) {
            x.refused(STATE, "work", 3, s, 0, 3);
            for (int what = 0; what < 3; what++) {
                x.due(1, "work", 3, s, 0, what);
            }
        }
        x.due(1, "work", 3, 0, 1, 3);
        x.spot(3, 0, 0, 0, 1);
        // a ROOT of which p is 0 isn't 0
        x.due(1, "work", 3, 2, 1, 3);
        x.spot(3, 0, 1, 2, 2);
        // 0 by way of a difference
        x.due(1, "work", 4, 1, 1, 1);
        x.refused(STATE, "work", 3, 2, 4, 3);
    }

    private static final String OVER_WORDS = "OVER: one of these numbers (ahead of lowest terms, or in them) isn't a long, or (worked "
        + "from the left on) a product or sum on the way to it.";

    /** The NUMBER of s, that of t and d of both give no longs: OVER; d of a NUMBER without a root doesn't count. */
    private static void over(int what, long[] s, long[] t, long d) {
        Run run = new Run();
        run.hold(0, s[0], s[1], d, s[2]);
        run.hold(1, t[0], t[1], d, t[2]);
        run.refused(OVER, "work", 0, 0, 1, what);
        run.refused(OVER, "work", 2, 0, 1, what);
        run.spot(0, s[0], s[1], s[1] == 0 ? 0 : d, s[2]);
        run.due(2, "count", 5);
    }

    private static void works(int what, long[] s, long[] t, long d, long... due) {
        Run run = new Run();
        run.hold(0, s[0], s[1], d, s[2]);
        run.hold(1, t[0], t[1], d, t[2]);
        run.due(1, "work", 2, 0, 1, what);
        run.spot(2, due[0], due[1], due[2], due[3]);
    }

    private static long[] n(long p, long q, long m) {
        return new long[] {p, q, m};
    }

    @Said(where = "Promise 30", words = OVER_WORDS)
    void sumOver() {
        // p w, u m, p w + u m, each above and below
        over(0, n(HALF, 0, 1), n(0, 9, 2), 2);
        over(0, n(-(1L << 61) - 1, 7, 1), n(0, 3, 4), 5);
        over(0, n(0, 7, 4), n((1L << 61) + 1, 5, 1), 2);
        over(0, n(-9, 0, 4), n(-(1L << 61) - 1, 0, 1), 0);
        over(0, n(1, 0, 1), n(MOST, 0, 1), 0);
        over(0, n(THIRD, 0, 1), n(THIRD, 0, 1), 0);
        over(0, n(LEAST, 0, 1), n(-1, 0, 1), 0);
        // q w, v m, q w + v m; m w
        over(0, n(0, (1L << 61) + 1, 1), n(1, 0, 4), 2);
        over(0, n(0, -(1L << 61) - 1, 8), n(5, 0, 4), 2);
        over(0, n(7, 5, 1L << 60), n(0, 8, 1), 2);
        over(0, n(9, 0, 2), n(0, -HALF - 1, 1), 5);
        over(0, n(0, 1, 1), n(0, MOST, 1), 2);
        over(0, n(0, LEAST, 1), n(0, -1, 1), 5);
        over(0, n(9, 8, 2048), n(7, 0, 1L << 52), 2);
        // lowest terms would be 1 by 2 to the 31
        over(0, n(1, 0, 1L << 32), n(1, 0, 1L << 32), 0);
    }

    @Said(where = "Promise 30", words = OVER_WORDS)
    void sumNotYetOver() {
        works(0, n(1, 0, 1), n(MOST - 1, 0, 1), 0, MOST, 0, 0, 1);
        works(0, n(LEAST + 1, 0, 1), n(-1, 0, 1), 0, LEAST, 0, 0, 1);
        works(0, n(0, MOST - 1, 1), n(0, 1, 1), 2, 0, MOST, 2, 1);
        works(0, n(0, LEAST + 1, 1), n(0, -1, 1), 2, 0, LEAST, 2, 1);
        works(0, n(LEAST, LEAST, 1), n(MOST, MOST, 1), 2, -1, -1, 2, 1);
        works(0, n(-HALF, 0, 1), n(1, 0, 2), 0, LEAST + 1, 0, 0, 2);
        works(0, n(1, 0, 1L << 31), n(1, 0, 1L << 31), 0, 1, 0, 0, 1L << 30);
    }

    @Said(where = "Promise 30", words = OVER_WORDS)
    void differenceOver() {
        // p w, u m, p w - u m, each above and below
        over(1, n(8388608, 0, 9), n(0, 9, 1L << 40), 3);
        over(1, n(-(1L << 61) - 1, 0, 1), n(0, 1, 4), 5);
        over(1, n(1, 0, 2), n(HALF + 1, 0, 1), 0);
        over(1, n(9, 0, 8), n(-(1L << 60) - 1, 0, 4), 0);
        over(1, n(0, 0, 1), n(LEAST, 0, 1), 0);
        over(1, n(-THIRD - 1, 0, 1), n(THIRD, 0, 1), 0);
        over(1, n(-2, 0, 1), n(MOST, 0, 1), 0);
        over(1, n(LEAST, 0, 1), n(1, 0, 1), 0);
        // q w, v m, q w - v m; m w
        over(1, n(0, 1L << 47, 1), n(9, 0, 65536), 5);
        over(1, n(0, -(1L << 60) - 1, 1), n(0, 1, 8), 3);
        over(1, n(3, 0, 2), n(0, HALF + 1, 1), 5);
        over(1, n(7, 0, 16), n(0, -(1L << 59) - 1, 1), 3);
        over(1, n(0, 0, 1), n(0, LEAST, 1), 2);
        over(1, n(0, LEAST, 1), n(0, 1, 1), 5);
        over(1, n(0, 3, 8), n(0, 9, 1L << 60), 3);
        over(1, n(1, 0, 1L << 32), n(1, 0, 1L << 32), 0);
    }

    @Said(where = "Promise 30", words = OVER_WORDS)
    void differenceNotYetOver() {
        works(1, n(-1, 0, 1), n(LEAST, 0, 1), 0, MOST, 0, 0, 1);
        works(1, n(LEAST, 0, 1), n(LEAST, 0, 1), 0, 0, 0, 0, 1);
        works(1, n(-1, 0, 1), n(MOST, 0, 1), 0, LEAST, 0, 0, 1);
        works(1, n(0, -1, 1), n(0, LEAST, 1), 3, 0, MOST, 3, 1);
        works(1, n(MOST, MOST, 1), n(MOST, MOST, 1), 3, 0, 0, 0, 1);
    }

    @Said(where = "Promise 30", words = OVER_WORDS)
    void productOver() {
        // p u, q v, q v d, p u + q v d, above and below
        over(2, n((1L << 60) + 1, 0, 1), n(8, 2, 1), 5);
        over(2, n(-(1L << 61) - 1, 0, 1), n(4, 0, 1), 0);
        over(2, n(LEAST, 0, 1), n(-1, 0, 1), 0);
        over(2, n(-1, 0, 1), n(LEAST, 0, 1), 0);
        over(2, n(0, MOST, 1), n(0, 4, 1), 2);
        over(2, n(1, -HALF, 1), n(1, 4, 1), 3);
        over(2, n(0, 4, 1), n(0, 1L << 60, 7), 2);
        over(2, n(0, 8, 1), n(0, -(1L << 59) - 1, 1), 2);
        over(2, n(-HALF + 1, -2, 9), n(-2, -1, 1), 2);
        over(2, n(-8, 4, 1), n(1L << 60, -1, 1), 3);
        // p v, q u, p v + q u; m w
        over(2, n(1L << 60, 0, 1), n(5, 8, 1), 5);
        over(2, n(-(1L << 61) - 1, 0, 2), n(0, 4, 1), 3);
        over(2, n(5, HALF, 5), n(2, 0, 1), 5);
        over(2, n(0, -2, 1), n(HALF + 1, 0, 1), 2);
        over(2, n(1L << 22, 1, 1), n(1L << 22, (1L << 41) - 1, 1), 2);
        over(2, n(-(1L << 30), 8, 1), n(-2, 1L << 33, 1), 2);
        over(2, n(0, 3, 4), n(0, 1, 1L << 61), 2);
        over(2, n(1, 0, 1L << 32), n(1, 0, 1L << 31), 0);
    }

    @Said(where = "Promise 30", words = OVER_WORDS)
    void productNotYetOver() {
        works(2, n(HALF, 0, 1), n(-2, 0, 1), 0, LEAST, 0, 0, 1);
        works(2, n(LEAST, 0, 1), n(1, 0, 1), 0, LEAST, 0, 0, 1);
        works(2, n(1, 0, 1), n(LEAST, 0, 1), 0, LEAST, 0, 0, 1);
        works(2, n(0, 1L << 31, 1), n(0, -(1L << 31), 1), 2, LEAST, 0, 0, 1);
        works(2, n(1L << 22, 1, 1), n((1L << 22) - 1, (1L << 41) - 1, 1), 2,
            (1L << 44) + (1L << 42) - (1L << 22) - 2, MOST, 2, 1);
        works(2, n(1, 0, 1L << 31), n(1, 0, 1L << 31), 0, 1, 0, 0, HALF);
        works(2, n(LEAST, 0, 1), n(1, 0, 1L << 62), 0, -2, 0, 0, 1);
    }

    @Said(where = "Promise 30", words = OVER_WORDS)
    void quotientOverInP() {
        // p u, q v, q v d, p u - q v d, times w, above and below
        over(3, n(HALF, 0, 1), n(2, 0, 1), 0);
        over(3, n(HALF + 1, 0, 1), n(-2, 0, 1), 0);
        over(3, n(0, (1L << 61) - 1, 1), n(0, 8, 1), 5);
        over(3, n(0, 4398046511103L, 4), n(0, -4194303, 2), 2);
        over(3, n(1, HALF + 1, 9), n(0, 1, 1), 2);
        over(3, n(5, (1L << 59) + 1, 3), n(0, -8, 1), 2);
        over(3, n(0, 1L << 59, 1), n(0, -8, 1), 2);
        over(3, n(1L << 32, 7, 1), n(-(1L << 31), 9, 1), 5);
        over(3, n(HALF, 0, 1), n(1, 0, 2), 0);
        over(3, n(0, (1L << 61) + 1, 4), n(0, 1, 2), 2);
    }

    @Said(where = "Promise 30", words = OVER_WORDS)
    void quotientOverInQ() {
        // q u, p v, q u - p v, times w, above and below
        over(3, n(0, 1L << 33, 1), n(1L << 30, 0, 1), 5);
        over(3, n(0, (1L << 60) + 1, 1), n(-8, 0, 1), 5);
        over(3, n(HALF + 1, 0, 3), n(0, 2, 1), 3);
        over(3, n((1L << 61) + 1, 6, 1), n(0, -4, 1), 2);
        over(3, n(1L << 43, 0, 7), n(8, -(1L << 20), 1), 2);
        over(3, n(-1, 1L << 39, 1), n(-(1L << 24), -2, 1), 2);
        over(3, n(0, 1L << 51, 1), n(8, 1, 512), 3);
        over(3, n(0, -(1L << 60) - 1, 4), n(1, 0, 8), 2);
    }

    @Said(where = "Promise 30", words = OVER_WORDS)
    void quotientOverInM() {
        // u u, v v, v v d, m times what they come to, above and below
        over(3, n(0, 0, 1), n(3037000500L, 0, 1), 0);
        over(3, n(0, 0, 1), n(-3037000500L, 0, 1), 0);
        over(3, n(2, 1, 1), n(0, 1L << 32, 1), 2);
        over(3, n(0, 0, 1), n(0, 1L << 31, 1), 2);
        over(3, n(0, 9, 8), n(1L << 30, 0, 1), 2);
        over(3, n(9, 0, 4), n(-1, -(1L << 30) - 1, 5), 2);
    }

    @Said(where = "Promise 30", words = OVER_WORDS)
    void quotientOverInLowestTerms() {
        // m comes below 0, so that p, q or m changes from -(2 to the 63) to what is no long
        over(3, n(0, 1, 1), n(-1, 1L << 21, 1L << 41), 2);
        over(3, n(HALF, 0, 1), n(0, 1, 2), 5);
        over(3, n(1, 0, 1L << 61), n(11, -5, 1), 5);
        // where a common divisor is found, it still is one
        works(3, n(1, 0, 1L << 61), n(4, 2, 1), 5, -2, 1, 5, HALF);
    }

    @Said(where = "Promise 30", words = OVER_WORDS)
    void quotientNotYetOver() {
        works(3, n(-HALF, 0, 1), n(2, 0, 1), 0, -(1L << 61), 0, 0, 1);
        works(3, n(1, 0, 1), n(3037000499L, 0, 1), 0, 1, 0, 0, 3037000499L);
        works(3, n(0, 0, 1), n(0, (1L << 31) - 1, 1), 2, 0, 0, 0, 1);
        works(3, n(LEAST, 0, 1), n(1, 0, 1), 0, LEAST, 0, 0, 1);
        works(3, n(LEAST + 1, 0, 1), n(-1, 0, 1), 0, MOST, 0, 0, 1);
        works(3, n(MOST, MOST, 1), n(-1, 0, 1), 7, -MOST, -MOST, 7, 1);
    }

    // ---- 31: compare

    private static final String COMPARE = "-1, 0, 1: NUMBER of SPOT s is less than, as great as, greater than that of t.";

    private void compares(int sign) {
        x.due(sign, "compare", 0, 1);
        x.due(-sign, "compare", 1, 0);
        x.due(0, "compare", 0, 0);
        x.due(0, "compare", 1, 1);
    }

    @Said(where = "Promise 31", words = COMPARE)
    void compareNextToRoots() {
        // the nearest to root 2 that longs can tell, from above and from below
        x.hold(0, 6882627592338442563L, 0, 0, 1);
        x.hold(1, 0, 4866752642924153522L, 2, 1);
        compares(1);
        x.hold(0, 2850877693509864481L, 0, 0, 1);
        x.hold(1, 0, 2015874949414289041L, 2, 1);
        compares(-1);
    }

    @Said(where = "Promise 31", words = COMPARE)
    void compareRootsOfUnlikeNumbers() {
        x.hold(0, 0, 9172089397301669399L, 2, 1);
        x.hold(1, 0, 7488979632860260401L, 3, 1);
        compares(-1);
        x.hold(0, 1, 9172089397301669399L, 2, 1);
        compares(1);
        // 3 - root 2 is 1.586, root 3 1.732; 5 - root 2 3.586
        x.hold(0, 3, -1, 2, 1);
        x.hold(1, 0, 1, 3, 1);
        compares(-1);
        x.hold(0, 5, -1, 2, 1);
        compares(1);
        x.hold(0, -3, 1, 2, 1);
        x.hold(1, 0, -1, 3, 1);
        compares(1);
    }

    @Said(where = "Promise 31", words = COMPARE)
    void compareNearRootsOfUnlikeNumbers() {
        // p + q times the root of d against v times the root of another: less than 4 by a million apart
        long[][] rows = {
            {235963892965621811L, 5957234430635240800L, 2, 5000295361521336599L, 3, -1},
            {-103998211209221348L, 2701035664215241003L, 2, 2145342989558710263L, 3, -1},
            {936894464708492235L, 8271542005069794465L, 5, 19432789846205171L, 999983, 1},
            {845422537541300841L, 8714602157084404978L, 5, 20332038180707368L, 999983, -1},
            {559319858885804445L, 8502414349446325025L, 6, 8083109137019338278L, 7, -1},
            {-492678993998679301L, 6322132554542364508L, 6, 5666942236092280508L, 7, 1},
        };
        for (long[] row : rows) {
            x.hold(0, row[0], row[1], row[2], 1);
            x.hold(1, 0, row[3], row[4], 1);
            compares((int) row[5]);
        }
    }

    @Said(where = "Promise 31", words = COMPARE)
    void compareTheUtmost() {
        x.hold(0, MOST, MOST, 2, 1);
        x.hold(1, MOST, MOST, 3, 1);
        compares(-1);
        x.hold(1, LEAST, LEAST, 3, 1);
        compares(1);
        x.hold(0, LEAST, 0, 0, 1);
        x.hold(1, MOST, 0, 0, 1);
        compares(-1);
        x.hold(0, MOST - 1, 0, 0, 1);
        compares(-1);
        x.hold(0, MOST, 0, 0, 1);
        compares(0);
    }

    @Said(where = "Promise 31", words = COMPARE)
    void compareAroundTheBorderOfInts() {
        // 2 to the 32 less 1 against root 2 times 2 to the 32, and against the root of 2 by 2 times that
        long border = 1L << 32;
        x.hold(0, border, -border, 2, 1);
        x.hold(1, 1, 0, 0, 1);
        compares(-1);
        x.hold(0, border, -border / 2, 2, 1);
        compares(1);
        x.hold(0, border, 0, 0, 1);
        x.hold(1, border - 1, 0, 0, 1);
        compares(1);
        x.hold(1, border + 1, 0, 0, 1);
        compares(-1);
    }

    @Said(where = "Promise 31", words = COMPARE)
    void compareFractionsAndZero() {
        x.hold(0, 1, 0, 0, HALF);
        x.hold(1, 0, 0, 0, 1);
        compares(1);
        x.hold(0, -1, 0, 0, HALF);
        compares(-1);
        x.hold(0, 0, 0, 0, 1);
        compares(0);
        x.hold(0, 1, 0, 0, 1L << 60);
        x.hold(1, 1, 0, 0, 3L << 59);
        compares(1);
        // root 2 by 3 and root 2 by 4; the same twice
        x.hold(0, 0, 1, 2, 3);
        x.hold(1, 0, 1, 2, 4);
        compares(1);
        x.hold(1, 0, 1, 2, 3);
        compares(0);
    }

    @Said(where = "Promise 31", words = "BEYOND.")
    void compareBeyond() {
        x.beyond(0, 0, 5, "compare", 0, 0);
        x.due(1, "ratio", 0, 1, 1);
        x.beyond(0, 0, 5, "compare", 0, 0);
        x.beyond(1, 0, 5, "compare", 0, 0);
        x.due(1, "ratio", 5, 2, 1);
        x.due(-1, "compare", 0, 5);
    }

    @Said(where = "Promise 31", words = "MISSING: s or t holds nothing.")
    void compareMissing() {
        x.refused(MISSING, "compare", 0, 0);
        x.due(1, "ratio", 0, 1, 1);
        x.refused(MISSING, "compare", 0, 5);
        x.refused(MISSING, "compare", 5, 0);
        x.refused(MISSING, "compare", 5, 4);
        x.due(1, "clear", 0);
        x.refused(MISSING, "compare", 0, 0);
    }

    // ---- 32: number

    @Said(where = "Promise 32", words = "Of NUMBER of a SPOT p (what 0), q, d, m.")
    void numberOfTheUtmost() {
        x.hold(3, LEAST, MOST, 999983, 3);
        x.spot(3, LEAST, MOST, 999983, 3);
        x.hold(3, MOST, LEAST, 2, 5);
        x.spot(3, MOST, LEAST, 2, 5);
        x.hold(3, 1, 0, 0, HALF);
        x.spot(3, 1, 0, 0, HALF);
    }

    @Said(where = "Promise 32", words = "BEYOND.")
    void numberBeyond() {
        x.beyond(0, 0, 5, "number", 0, 0);
        x.beyond(1, 0, 3, "number", 0, 0);
        x.due(1, "ratio", 0, 1, 1);
        x.beyond(0, 0, 5, "number", 0, 0);
        x.beyond(1, 0, 3, "number", 0, 0);
    }

    @Said(where = "Promise 32", words = "MISSING.")
    void numberMissing() {
        for (int what = 0; what <= 3; what++) {
            x.refused(MISSING, "number", 5, what);
        }
        x.due(1, "ratio", 5, 1, 1);
        x.due(1, "number", 5, 3);
        x.due(1, "clear", 5);
        x.refused(MISSING, "number", 5, 3);
    }

    // ---- 33: taken

    private static final String TAKEN = "NUMBER of a SPOT taken for one of a KIND (0 to 3), or under it: of as 0 its sign (-1, 0, 1), of a "
        + "ROOT d, of a RATIO m, of a WHOLE p, if that is an int.";

    @Said(where = "Promise 33", words = TAKEN)
    void takenForItsSign() {
        x.hold(0, 0, 0, 0, 1);
        x.due(0, "taken", 0, 0);
        x.hold(0, LEAST, 0, 0, 1);
        x.due(-1, "taken", 0, 0);
        x.hold(0, 1, 0, 0, HALF);
        x.due(1, "taken", 0, 0);
        // next to 0: p and q root d are nearly as great
        x.hold(0, 6882627592338442563L, -4866752642924153522L, 2, 1);
        x.due(1, "taken", 0, 0);
        x.hold(0, -6882627592338442563L, 4866752642924153522L, 2, 1);
        x.due(-1, "taken", 0, 0);
        x.hold(0, 0, -1, 2, 1);
        x.due(-1, "taken", 0, 0);
    }

    @Said(where = "Promise 33", words = TAKEN)
    void takenForWhatIsUnderAKind() {
        x.hold(0, 5, 7, 999983, 6);
        x.due(999983, "taken", 0, 1);
        x.hold(0, 5, 0, 0, 6);
        x.due(6, "taken", 0, 2);
        // a WHOLE is a RATIO, too
        x.hold(0, -5, 0, 0, 1);
        x.due(1, "taken", 0, 2);
        x.due(-5, "taken", 0, 3);
        x.due(-1, "taken", 0, 0);
    }

    @Said(where = "Promise 33", words = TAKEN)
    void takenForTheUtmostInts() {
        x.hold(0, LEAST_INT, 0, 0, 1);
        x.due(LEAST_INT, "taken", 0, 3);
        x.hold(0, MOST_INT, 0, 0, 1);
        x.due(MOST_INT, "taken", 0, 3);
        x.hold(1, 1, 0, 0, 1);
        x.due(1, "work", 1, 1, 0, 3);
        x.spot(1, 1, 0, 0, MOST_INT);
        x.due(MOST_INT, "taken", 1, 2);
    }

    @Said(where = "Promise 33", words = "BEYOND.")
    void takenBeyond() {
        x.beyond(0, 0, 5, "taken", 0, 0);
        x.beyond(1, 0, 3, "taken", 0, 0);
        x.due(1, "ratio", 0, 1, 1);
        x.beyond(0, 0, 5, "taken", 0, 0);
        x.beyond(1, 0, 3, "taken", 0, 0);
    }

    @Said(where = "Promise 33", words = "MISSING.")
    void takenMissing() {
        for (int as = 0; as <= 3; as++) {
            x.refused(MISSING, "taken", 5, as);
        }
        x.due(1, "ratio", 5, 1, 1);
        x.due(1, "taken", 5, 3);
        x.due(1, "clear", 5);
        x.refused(MISSING, "taken", 5, 3);
    }

    @Said(where = "Promise 33", words = "KIND.")
    void takenKind() {
        x.hold(0, 0, 1, 2, 1);
        x.refused(KIND, "taken", 0, 2);
        x.refused(KIND, "taken", 0, 3);
        x.hold(0, 1, 0, 0, 2);
        x.refused(KIND, "taken", 0, 1);
        x.refused(KIND, "taken", 0, 3);
        x.hold(0, 0, 0, 0, 1);
        x.refused(KIND, "taken", 0, 1);
        x.due(0, "taken", 0, 3);
        x.due(1, "taken", 0, 2);
    }

    @Said(where = "Promise 33", words = "OVER: it is no int.")
    void takenOver() {
        x.hold(0, MOST_INT + 1L, 0, 0, 1);
        x.refused(OVER, "taken", 0, 3);
        x.due(1, "taken", 0, 2);
        x.due(1, "taken", 0, 0);
        x.hold(0, LEAST_INT - 1L, 0, 0, 1);
        x.refused(OVER, "taken", 0, 3);
        x.hold(0, 1L << 32, 0, 0, 1);
        x.refused(OVER, "taken", 0, 3);
        x.hold(0, LEAST, 0, 0, 1);
        x.refused(OVER, "taken", 0, 3);
        x.hold(0, 1, 0, 0, MOST_INT + 1L);
        x.refused(OVER, "taken", 0, 2);
        x.hold(0, 1, 0, 0, HALF);
        x.refused(OVER, "taken", 0, 2);
        x.due(1, "taken", 0, 0);
    }

    // ---- 34: clear

    @Said(where = "Promise 34", words = "A SPOT holds nothing: 1 if it held something, else 0.")
    void clearTwice() {
        for (int spot = 0; spot <= 5; spot++) {
            x.due(0, "clear", spot);
            x.due(1, "ratio", spot, 0, 1);
            x.due(1, "count", 5);
            x.due(1, "clear", spot);
            x.due(0, "clear", spot);
            x.due(0, "count", 5);
            x.refused(MISSING, "number", spot, 0);
        }
        x.due(1, "ratio", 0, 1, 1);
        x.due(1, "ratio", 5, 2, 1);
        x.due(1, "clear", 0);
        x.spot(5, 2, 0, 0, 1);
    }

    @Said(where = "Promise 34", words = "BEYOND.")
    void clearBeyond() {
        x.due(1, "ratio", 0, 1, 1);
        x.due(1, "ratio", 5, 1, 1);
        x.beyond(0, 0, 5, "clear", 0);
        x.due(2, "count", 5);
    }
}
