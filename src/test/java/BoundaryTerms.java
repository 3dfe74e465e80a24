/** Boundary cases that "What it is" and "Terms" name. */
final class BoundaryTerms extends Boundary {
    private static final int[] SLANT_A = {1, 0, 3, 4, 3, 4};
    private static final int[] SLANT_B = {0, 1, 4, 3, -4, -3};
    private static final int[] SLANT_L = {1, 1, 5, 5, 5, 5};

    // ---- what it is

    @Said(where = "What it is", words = "An object is used for at most 512 calls after it has been made")
    void the512thCallTellsAllFindings() {
        for (int n = 1; n <= 511; n++) {
            x.refused(NONE, "drop");
        }
        x.due(511, "status", -1);
    }

    @Said(where = "What it is", words = "An object is used for at most 512 calls after it has been made")
    void the512thCallStillFindsAnswers() {
        threePoints(x);
        for (int n = 4; n <= 511; n++) {
            x.due(n % 2 == 0 ? 0 : 5, "change", 2, 2, n % 2 == 0 ? 5 : 0);
        }
        x.due(5, "answer", 0, 2, 0);
    }

    @Said(where = "What it is", words = "An object is used for at most 512 calls after it has been made")
    void the512thCallStillDraws() {
        for (int i = 0; i < 6; i++) {
            x.due(i, "straight", 0, i);
        }
        int z = 1;
        for (int n = 7; n <= 512; n++) {
            z = z * 1103515245 + 12345;
            x.due((z >>> 8) % 20, "draw");
        }
    }

    // ---- findings

    @Said(where = "Terms", words = "FINDINGS are answers LOW - k, LOW being -1000001 (of those that answer longs "
        + "-4000000000000000001): k 0 BEYOND, 1 FULL, 2 KIND, 3 NONE, 4 STATE, 5 MISSING, 6 SIZE, 7 OVER.")
    void findingsByTheirNumbers() {
        x.due(-1000001, "round", 6, 0, 0);
        x.due(-1000004, "drop");
        x.due(-1000005, "draw");
        x.due(-1000006, "compare", 0, 0);
        x.due(-1000007, "sheet", 0, 0, -1);
        for (int i = 0; i < 6; i++) {
            x.due(i, "round", 0, 0, 0);
        }
        x.due(-1000002, "round", 0, 0, 0);
        x.due(-1000003, "of", 0, 4);
        x.hold(0, LEAST, 0, 0, 1);
        x.due(-1000008, "work", 0, 0, 0, 0);
        for (int which = 0; which < 8; which++) {
            x.due(1, "status", which);
        }
    }

    @Said(where = "Terms", words = "FINDINGS are answers LOW - k, LOW being -1000001 (of those that answer longs "
        + "-4000000000000000001): k 0 BEYOND, 1 FULL, 2 KIND, 3 NONE, 4 STATE, 5 MISSING, 6 SIZE, 7 OVER.")
    void findingsOfLongs() {
        x.due(-4000000000000000001L, "answer", 0, 3, 0);
        x.due(-4000000000000000005L, "answer", 0, 0, 0);
        x.due(-4000000000000000001L, "number", 6, 0);
        x.due(-4000000000000000006L, "number", 0, 0);
        x.due(-4000000000000000001L, "item", 4, 0);
        x.due(-4000000000000000006L, "item", 0, 0);
        threePoints(x);
        x.due(-4000000000000000004L, "answer", 1, 0, 0);
        x.due(7, "status", -1);
        x.due(3, "status", 0);
        x.due(1, "status", 3);
        x.due(1, "status", 4);
        x.due(2, "status", 5);
    }

    @Said(where = "Terms", words = "FINDINGS are answers LOW - k, LOW being -1000001 (of those that answer longs "
        + "-4000000000000000001): k 0 BEYOND, 1 FULL, 2 KIND, 3 NONE, 4 STATE, 5 MISSING, 6 SIZE, 7 OVER.")
    void numbersThatLookLikeFindingsAreNone() {
        x.due(1, "seed", -1000001);
        x.due(-1000001, "count", 4);
        x.due(-1000001, "seed", 0);
        x.due(1, "sheet", 0, 2, 1);
        x.due(1, "write", 0, 0, -4000000000000000001L);
        x.due(-4000000000000000001L, "item", 0, 0);
        x.hold(0, -1000001, 0, 0, 1);
        x.due(-1000001, "taken", 0, 3);
        x.due(0, "status", -1);
    }

    private static final String ORDER =
        "Each act tells its findings in the order in which they are asked (that of its words)";

    @Said(where = "Terms", words = ORDER)
    void orderOfFindingsOfShapes() {
        x.due(0, "straight", 2, 0);
        x.due(1, "round", 0, 0, 0);
        x.due(2, "round", 0, 0, 2);
        x.due(3, "round", 2, 0, 0);
        // the KIND is asked ahead of v, the SHAPE and what ahead of the KIND
        x.refused(KIND, "change", 0, 1, 6);
        x.refused(KIND, "change", 1, 5, 31);
        x.refused(BEYOND, "change", 4, 4, 6);
        x.refused(BEYOND, "change", 1, 6, 6);
        x.refused(BEYOND, "of", 4, 4);
        x.refused(BEYOND, "as", 0, 5);
        x.refused(BEYOND, "as", 4, 1);
        x.refused(BEYOND, "radical", 0, 1, 3);
        x.refused(BEYOND, "radical", 0, 0, 0);
        x.refused(BEYOND, "radical", 1, 2, 3);
        x.refused(BEYOND, "radical", 1, 1, 0);
        // SHAPE 3, a POINT, is on SHAPE 2; a STRAIGHT goes through it
        x.refused(KIND, "ring", 2, 3);
        x.refused(KIND, "ring", 0, 2);
        x.refused(BEYOND, "ring", 0, 0);
        x.refused(BEYOND, "ring", 2, 2);
        x.due(4, "round", 0, 0, 0);
        x.due(5, "round", 0, 0, 0);
        x.refused(BEYOND, "round", 6, 0, 0);
        x.refused(FULL, "round", 5, 0, 0);
        x.refused(BEYOND, "straight", 0, 31);
        x.refused(FULL, "straight", 0, 30);
    }

    @Said(where = "Terms", words = ORDER)
    void orderOfFindingsOfAnswers() {
        x.refused(BEYOND, "answers", 3);
        x.refused(STATE, "signs", 99);
        x.refused(BEYOND, "answer", 99, 3, 0);
        x.refused(BEYOND, "answer", 99, 0, 4);
        x.refused(STATE, "answer", 99, 0, 0);
        x.refused(BEYOND, "best", 2);
        x.refused(STATE, "best", 0);
        x.refused(STATE, "rank", 99);
        x.refused(BEYOND, "touches", 99, 0);
        x.refused(BEYOND, "put", 6, 99, 0);
        x.refused(BEYOND, "put", 0, 99, 3);
        x.refused(STATE, "put", 0, 99, 0);
        x.due(0, "round", 0, 0, 0);
        x.refused(STATE, "touches", 99, 0);
        x.due(1, "round", 1, 0, 0);
        x.due(2, "round", 2, 0, 0);
        x.refused(BEYOND, "answer", 0, 3, 0);
        x.refused(BEYOND, "best", 2);
        x.refused(BEYOND, "touches", 0, 3);
        x.refused(BEYOND, "put", 6, 0, 0);
        x.refused(NONE, "touches", 0, 2);
        x.refused(NONE, "put", 0, 0, 0);
    }

    @Said(where = "Terms", words = ORDER)
    void orderOfFindingsOfForms() {
        // every SHEET is MISSING, there is no SHAPE
        x.refused(BEYOND, "lays", 0, 0);
        x.due(0, "round", 0, 0, 0);
        x.refused(BEYOND, "lays", 4, 0);
        x.refused(MISSING, "lays", 0, 0);
        x.refused(BEYOND, "invert", 0, 10, 0, 1);
        x.refused(BEYOND, "invert", 0, 0, 0, 0);
        x.refused(MISSING, "invert", 0, 0, 0, 1);
        x.refused(MISSING, "tell", 0);
        // three numbers, all 0
        x.due(3, "sheet", 0, 0, 3);
        x.refused(BEYOND, "invert", 0, 0, 10, 1);
        x.refused(SIZE, "invert", 0, 0, 0, 1);
        x.due(4, "sheet", 0, 0, 4);
        x.refused(BEYOND, "invert", 0, 0, 0, 100);
        x.refused(STATE, "invert", 0, 0, 0, 1);
    }

    @Said(where = "Terms", words = ORDER)
    void orderOfFindingsOfNumbers() {
        x.refused(BEYOND, "work", 0, 0, 0, 4);
        x.refused(BEYOND, "work", 6, 0, 0, 0);
        x.refused(MISSING, "work", 0, 0, 0, 3);
        x.refused(BEYOND, "compare", 0, 6);
        x.refused(BEYOND, "compare", 6, 0);
        x.refused(BEYOND, "number", 0, 4);
        x.refused(BEYOND, "taken", 0, 4);
        x.refused(MISSING, "taken", 0, 1);
        // roots of unlike d, the product of which would be no long
        x.hold(0, 0, MOST, 2, 1);
        x.hold(1, 0, MOST, 3, 1);
        x.refused(BEYOND, "work", 0, 0, 1, 4);
        x.refused(MISSING, "work", 0, 0, 2, 2);
        x.refused(KIND, "work", 0, 0, 1, 2);
        x.refused(OVER, "work", 0, 0, 0, 2);
        // 1 by a number that is no int: it is no WHOLE
        x.hold(2, 1, 0, 0, 1L << 31);
        x.refused(KIND, "taken", 2, 3);
        x.refused(KIND, "taken", 2, 1);
        x.refused(OVER, "taken", 2, 2);
    }

    @Said(where = "Terms", words = ORDER)
    void orderOfFindingsOfSheets() {
        x.refused(BEYOND, "sheet", 4, 0, -1);
        x.refused(BEYOND, "sheet", 0, 3, -1);
        x.refused(SIZE, "sheet", 0, 0, LEAST_INT);
        x.refused(BEYOND, "write", 4, -1, 0);
        x.refused(MISSING, "write", 0, -1, 0);
        x.refused(MISSING, "item", 0, -1);
        x.refused(BEYOND, "copy", 0, 0, 4, 0, 0);
        x.refused(BEYOND, "copy", 4, 0, 0, 0, 0);
        x.refused(MISSING, "copy", 0, -1, 0, 0, 0);
        x.due(2, "sheet", 0, 0, 2);
        x.refused(MISSING, "copy", 0, 0, 1, 0, 3);
        x.refused(MISSING, "copy", 1, 0, 0, 0, 3);
        x.due(2, "sheet", 1, 1, 2);
        x.refused(KIND, "copy", 0, 0, 1, 0, 3);
        x.refused(KIND, "copy", 1, -1, 0, 0, 1);
        x.refused(BEYOND, "copy", 0, 0, 0, 0, 3);
    }

    private static final String UNCHANGED = "one that answers a finding changes nothing but status().";

    /** There is something of everything that a refused call might change: that none does is seen in Run. */
    private void fill() {
        threeRounds(x);
        x.due(3, "straight", 2, 7);
        x.due(4, "round", 2, 2, 0);
        x.due(5, "round", 0, 0, 1);
        x.due(1, "three", 4, 3, 1);
        x.due(1, "seed", 99);
        x.due(1, "image");
        x.due(1, "change", 2, 1, 2);
        x.due(2, "image");
        x.due(4, "sheet", 0, 0, 4);
        x.due(5, "sheet", 1, 2, 5);
        x.due(2, "sheet", 2, 1, 2);
        x.due(4, "lays", 1, 0);
        x.due(1, "write", 0, 1, 77);
        x.due(1, "write", 0, 3, 1);
        x.due(1, "ratio", 0, 22, 7);
        x.due(1, "root", 1, 8);
        x.due(1, "root", 2, 3);
        x.due(1, "ratio", 3, 0, 1);
    }

    @Said(where = "Terms", words = UNCHANGED)
    void refusedActsOnShapesChangeNothing() {
        fill();
        x.refused(BEYOND, "round", 6, 6, 6);
        x.refused(FULL, "round", 5, 5, 5);
        x.refused(BEYOND, "straight", 0, -31);
        x.refused(FULL, "straight", 0, -30);
        x.refused(BEYOND, "of", 0, 10);
        x.refused(KIND, "of", 0, 5);
        x.refused(BEYOND, "change", 0, 1, 6);
        x.refused(BEYOND, "change", 3, 5, -31);
        x.refused(BEYOND, "change", 6, 1, 1);
        x.refused(KIND, "change", 3, 3, 1);
        x.refused(BEYOND, "as", 0, 5);
        x.refused(KIND, "as", 0, 4);
        x.refused(BEYOND, "prune", 5);
        x.refused(BEYOND, "swap", 0, 6);
        x.refused(BEYOND, "lie", 0, 0);
        x.refused(BEYOND, "power", 0, 100, 0);
        x.refused(BEYOND, "radical", 0, 1, 3);
        x.refused(KIND, "radical", 0, 3, 0);
        x.refused(NONE, "radical", 0, 5, 0);
        x.refused(BEYOND, "ring", 0, 6);
        x.refused(KIND, "ring", 0, 4);
        x.refused(STATE, "ring", 0, 5);
        x.refused(NONE, "ring", 0, 1);
    }

    @Said(where = "Terms", words = UNCHANGED)
    void refusedActsOnAnswersChangeNothing() {
        fill();
        x.refused(BEYOND, "three", 0, 1, 6);
        x.refused(BEYOND, "three", 0, 1, 0);
        x.refused(BEYOND, "ofThree", 3);
        x.refused(BEYOND, "answers", 3);
        x.refused(NONE, "signs", 99);
        x.refused(BEYOND, "answer", 0, 0, 4);
        x.refused(NONE, "answer", 99, 0, 0);
        x.refused(BEYOND, "best", 2);
        x.refused(NONE, "rank", 99);
        x.refused(BEYOND, "touches", 0, 6);
        x.refused(NONE, "touches", 99, 0);
        x.refused(BEYOND, "put", 6, 0, 0);
        x.refused(NONE, "put", 0, 99, 0);
        x.due(1, "three", 5, 0, 1);
        x.due(0, "prune", 4);
        x.due(5, "drop");
        x.refused(STATE, "answers", 0);
        x.refused(STATE, "signs", 0);
        x.refused(STATE, "answer", 0, 0, 0);
        x.refused(STATE, "best", 0);
        x.refused(STATE, "rank", 0);
        x.refused(STATE, "touches", 0, 0);
        x.refused(STATE, "put", 0, 0, 0);
        x.due(4, "prune", 1);
        x.refused(STATE, "draw");
        x.refused(BEYOND, "count", 6);
        x.due(0, "drop");
        x.refused(NONE, "drop");
    }

    @Said(where = "Terms", words = UNCHANGED)
    void refusedActsOnRowsAndSpotsChangeNothing() {
        fill();
        x.refused(BEYOND, "lays", 4, 0);
        x.refused(MISSING, "lays", 3, 0);
        x.refused(BEYOND, "invert", 1, 10, 0, 1);
        x.refused(MISSING, "invert", 3, 0, 0, 1);
        x.refused(SIZE, "invert", 2, 0, 0, 1);
        x.refused(OVER, "invert", 0, 2, 0, 1);
        x.refused(MISSING, "tell", 3);
        x.refused(BEYOND, "ratio", 0, 1, 0);
        x.refused(BEYOND, "root", 0, -1);
        x.refused(BEYOND, "work", 0, 0, 1, 4);
        x.refused(MISSING, "work", 0, 0, 5, 0);
        x.refused(KIND, "work", 0, 1, 2, 0);
        x.refused(STATE, "work", 0, 1, 3, 3);
        x.refused(MISSING, "compare", 0, 5);
        x.refused(MISSING, "number", 5, 0);
        x.refused(KIND, "taken", 0, 1);
        x.refused(BEYOND, "clear", 6);
        x.refused(BEYOND, "sheet", 1, 3, 0);
        x.refused(SIZE, "sheet", 1, 2, -1);
        x.refused(BEYOND, "sheet", 1, 2, 41);
        x.refused(BEYOND, "write", 1, 5, 1);
        x.refused(MISSING, "write", 3, 0, 1);
        x.refused(BEYOND, "item", 1, 5);
        x.refused(KIND, "copy", 0, 0, 1, 0, 1);
        x.refused(BEYOND, "copy", 1, 0, 1, 1, 5);
        x.refused(BEYOND, "status", 8);
    }

    @Said(where = "Terms", words = UNCHANGED)
    void refusedActsOnPilesChangeNothing() {
        fill();
        for (int n = 3; n <= 8; n++) {
            x.due(n, "image");
        }
        x.refused(FULL, "image");
        for (int n = 0; n < 8; n++) {
            x.due(6, "back");
        }
        x.refused(NONE, "back");
    }

    @Said(where = "Terms", words = "Sets are told by bits.")
    void setsAreToldByBits() {
        // two STRAIGHTS side by side: LOOSE where their bits are alike, by SIGNS 0, 3, 4, 7; ANSWERS by SIGNS 2 and 6
        x.due(0, "straight", 0, 0);
        x.due(1, "straight", 0, 2);
        x.due(2, "straight", 1, 0);
        x.due(1 + 8 + 16 + 128, "answers", 1);
        x.due(4 + 64, "answers", 2);
    }

    // ---- shapes

    @Said(where = "Terms", words = "SHAPES 0, 1, .. (at most 6)")
    void atMostSixShapes() {
        for (int i = 0; i < 6; i++) {
            x.due(i, i % 2 == 0 ? "round" : "straight", i % 2 == 0 ? new long[] {i - 3, i, 1} : new long[] {i, i});
        }
        x.refused(FULL, "round", 0, 0, 0);
        x.refused(FULL, "straight", 0, 0);
        x.due(6, "count", 0);
        for (int i = 0; i < 6; i++) {
            x.due(i % 2 == 0 ? 1 : i == 1 ? 4 : 2, "of", i, 0);
        }
    }

    @Said(where = "Terms", words = ", of KINDS: 0 SHAPE; 1 ROUND, 2 STRAIGHT under SHAPE; 3 POINT under ROUND; "
        + "4 PLAIN under STRAIGHT.")
    void kindsUnderKinds() {
        x.due(0, "round", 1, 2, 3);
        x.due(1, "round", 1, 2, 0);
        x.due(2, "straight", 2, 11);
        x.due(3, "straight", 1, 12);
        long[][] due = {{3, 3, -1, -1, -1}, {0, 0, -1, 0, -1}, {11, -1, 11, -1, -1}, {12, -1, 12, -1, 12}};
        for (int i = 0; i < 4; i++) {
            for (int kind = 0; kind < 5; kind++) {
                if (due[i][kind] < 0) {
                    x.refused(KIND, "as", i, kind);
                } else {
                    x.due(due[i][kind], "as", i, kind);
                }
            }
        }
    }

    @Said(where = "Terms", words = "A ROUND has a centre x, y (-5 to 5) and a RADIUS (0 to 5)")
    void leastAndGreatestRound() {
        x.due(0, "round", -5, 5, 0);
        x.due(1, "round", 5, -5, 5);
        x.beyond(0, -5, 5, "round", 0, 0, 1);
        x.beyond(1, -5, 5, "round", 0, 0, 1);
        x.beyond(2, 0, 5, "round", 0, 0, 1);
        x.due(2, "count", 0);
        int[][] due = {{-5, 5, 0}, {5, -5, 5}};
        for (int i = 0; i < 2; i++) {
            for (int what = 1; what <= 3; what++) {
                x.due(due[i][what - 1], "of", i, what);
            }
        }
    }

    @Said(where = "Terms", words = "; with RADIUS 0 it is a POINT.")
    void radiusZeroIsAPoint() {
        for (int radius = 0; radius <= 5; radius++) {
            x.due(radius, "round", 0, 0, radius);
            x.due(radius == 0 ? 3 : 1, "of", radius, 0);
        }
        x.due(1, "count", 2);
        x.due(6, "count", 1);
        x.due(1, "change", 1, 3, 0);
        x.due(3, "of", 1, 0);
        x.due(2, "count", 2);
    }

    @Said(where = "Terms", words = "A STRAIGHT has a SLANT (0 to 5) by which numbers a, b, l are 0: 1, 0, 1; 1: 0, 1, 1; "
        + "2: 3, 4, 5; 3: 4, 3, 5; 4: 3, -4, 5; 5: 4, -3, 5; and a number c (-30 to 30)")
    void leastAndGreatestStraight() {
        x.due(0, "straight", 0, -30);
        x.due(1, "straight", 5, 30);
        x.beyond(0, 0, 5, "straight", 0, 0);
        x.beyond(1, -30, 30, "straight", 0, 0);
        x.due(2, "count", 0);
        x.due(-30, "of", 0, 5);
        x.due(30, "of", 1, 5);
        for (int slant = 0; slant <= 5; slant++) {
            x.ask("change", 0, 4, slant);
            x.due(slant, "of", 0, 4);
            x.due(SLANT_A[slant], "of", 0, 7);
            x.due(SLANT_B[slant], "of", 0, 8);
        }
    }

    @Said(where = "Terms", words = "A STRAIGHT has a SLANT (0 to 5) by which numbers a, b, l are 0: 1, 0, 1; 1: 0, 1, 1; "
        + "2: 3, 4, 5; 3: 4, 3, 5; 4: 3, -4, 5; 5: 4, -3, 5; and a number c (-30 to 30)")
    void lSaysHowFarStraightsAre() {
        x.due(0, "straight", 0, 0);
        x.due(1, "round", 0, 0, 5);
        for (int slant = 0; slant <= 5; slant++) {
            x.ask("change", 0, 4, slant);
            int touching = 5 * SLANT_L[slant];
            for (int side = -1; side <= 1; side += 2) {
                for (int off = -1; off <= 1; off++) {
                    x.ask("change", 0, 5, side * (touching + off));
                    x.due(1 - off, "lie", 0, 1);
                }
            }
        }
    }

    @Said(where = "Terms", words = ": all points with a x + b y = c;")
    void pointsOfStraights() {
        x.due(0, "straight", 0, 0);
        for (int slant = 0; slant <= 5; slant++) {
            x.ask("change", 0, 4, slant);
            x.ask("change", 0, 5, 2 * SLANT_A[slant] - 3 * SLANT_B[slant]);
            x.due(0, "power", 0, 2, -3);
            x.due(0, "power", 0, 2 + SLANT_B[slant], -3 - SLANT_A[slant]);
            x.due(SLANT_A[slant], "power", 0, 3, -3);
            x.due(SLANT_B[slant], "power", 0, 2, -2);
        }
    }

    @Said(where = "Terms", words = " with SLANT 0 or 1 it is a PLAIN.")
    void slantsZeroAndOneArePlain() {
        for (int slant = 0; slant <= 5; slant++) {
            x.due(slant, "straight", slant, 0);
            x.due(slant <= 1 ? 4 : 2, "of", slant, 0);
        }
        x.refused(KIND, "as", 2, 4);
        x.due(0, "as", 1, 4);
        x.due(2, "prune", 4);
    }

    @Said(where = "Terms", words = "FORM: four numbers A, B, C, D: all points with A (x x + y y) + B x + C y + D = 0. Of a "
        + "ROUND: 1, -2 x, -2 y, x x + y y less RADIUS times itself; of a STRAIGHT: 0, a, b, -c.")
    void formsOfTheUtmostShapes() {
        int[][] rounds = {{-5, 5, 0}, {5, -5, 5}, {0, 0, 5}, {0, 0, 0}};
        int[][] forms = {{1, 10, -10, 50}, {1, -10, 10, 25}, {1, 0, 0, -25}, {1, 0, 0, 0}, {0, 4, -3, 30}, {0, 0, 1, -30}};
        for (int[] round : rounds) {
            x.ask("round", round[0], round[1], round[2]);
        }
        x.due(4, "straight", 5, -30);
        x.due(5, "straight", 1, 30);
        for (int i = 0; i < 6; i++) {
            for (int n = 0; n < 4; n++) {
                x.due(forms[i][n], "of", i, 6 + n);
            }
        }
    }

    @Said(where = "Terms", words = "POWER (of a ROUND, a STRAIGHT, in a point): A (x x + y y) + B x + C y + D.")
    void powersInTheUtmostPoints() {
        x.due(0, "round", -5, -5, 0);
        x.due(1, "round", 5, 5, 5);
        x.due(2, "straight", 5, 30);
        x.due(2 * 104 * 104, "power", 0, 99, 99);
        x.due(2 * 94 * 94 - 25, "power", 1, 99, 99);
        x.due(2 * 104 * 104 - 25, "power", 1, -99, -99);
        x.due(-7 * 99 - 30, "power", 2, -99, 99);
        x.due(-25, "power", 1, 5, 5);
        x.due(0, "power", 1, 5, 0);
        x.due(0, "power", 0, -5, -5);
    }

    @Said(where = "Terms", words = "THE THREE: numbers of three unlike SHAPES, in an order (0, 1, 2 at first; whether there "
        + "are such or not).")
    void theThreeAreToldWhetherThereAreSuchOrNot() {
        for (int k = 0; k < 3; k++) {
            x.due(k, "ofThree", k);
        }
        x.refused(STATE, "answers", 0);
        for (int i = 0; i < 6; i++) {
            x.due(i, "round", 0, 0, i);
        }
        x.due(1, "three", 5, 3, 4);
        x.due(6, "prune", 0);
        x.due(5, "ofThree", 0);
        x.due(3, "ofThree", 1);
        x.due(4, "ofThree", 2);
        x.refused(BEYOND, "three", 5, 3, 3);
    }
}
