/** Boundary cases of promises 1 to 14: shapes. */
final class BoundaryShapes extends Boundary {
    /** SHAPES 0 to 5: ROUND, POINT, STRAIGHT, PLAIN, ROUND, PLAIN. */
    private void sixShapes() {
        x.due(0, "round", 1, 1, 1);
        x.due(1, "round", 2, 2, 0);
        x.due(2, "straight", 2, 2);
        x.due(3, "straight", 0, 3);
        x.due(4, "round", 4, 4, 4);
        x.due(5, "straight", 1, 5);
    }

    private void kindsAre(int... kinds) {
        x.due(kinds.length, "count", 0);
        for (int i = 0; i < kinds.length; i++) {
            x.due(kinds[i], "of", i, 0);
        }
        x.refused(BEYOND, "of", kinds.length, 0);
    }

    // ---- 1: a new object

    @Said(where = "Promise 1", words = "All as at first; no SHAPES.")
    void aNewObjectHasNothing() {
        for (int which = -1; which < 8; which++) {
            x.due(0, "status", which);
        }
        int[] counts = {0, 0, 0, 0, 1, 0};
        for (int what = 0; what < 6; what++) {
            x.due(counts[what], "count", what);
        }
        for (int k = 0; k < 3; k++) {
            x.due(k, "ofThree", k);
        }
        x.refused(BEYOND, "of", 0, 0);
        x.refused(NONE, "drop");
        x.refused(NONE, "back");
        x.refused(STATE, "answers", 0);
        for (int s = 0; s < 4; s++) {
            x.refused(MISSING, "item", s, 0);
        }
        for (int spot = 0; spot < 6; spot++) {
            x.refused(MISSING, "number", spot, 0);
        }
    }

    @Said(where = "Promise 1", words = "All as at first; no SHAPES.")
    void aNewObjectKnowsNothingOfOthers() {
        sixShapes();
        x.due(1, "seed", 5);
        x.due(1, "image");
        x.due(1, "ratio", 0, 1, 1);
        x.due(1, "sheet", 0, 0, 1);
        x.refused(FULL, "round", 0, 0, 0);
        Run y = new Run();
        y.due(0, "status", -1);
        y.due(0, "count", 0);
        y.due(0, "count", 3);
        y.due(1, "count", 4);
        y.due(0, "count", 5);
        y.refused(MISSING, "item", 0, 0);
    }

    // ---- 2, 3: round, straight

    @Said(where = "Promise 2", words = "A ROUND: its number.")
    void roundsAreNumberedFromZeroOn() {
        x.due(0, "round", -5, -5, 0);
        x.due(1, "round", 5, 5, 5);
        x.due(2, "round", 0, 0, 1);
        x.due(2, "drop");
        x.due(2, "round", -5, 5, 5);
        x.due(3, "prune", 0);
        x.due(0, "round", 1, 2, 3);
        x.due(1, "of", 0, 1);
        x.due(2, "of", 0, 2);
        x.due(3, "of", 0, 3);
    }

    @Said(where = "Promise 2", words = "BEYOND.")
    void roundBeyond() {
        x.beyond(0, -5, 5, "round", 0, 0, 0);
        x.beyond(1, -5, 5, "round", 0, 0, 0);
        x.beyond(2, 0, 5, "round", 0, 0, 0);
        x.due(0, "count", 0);
        x.due(0, "round", -5, -5, 5);
        x.due(1, "round", 5, 5, 0);
    }

    @Said(where = "Promise 2", words = "FULL.")
    void roundFull() {
        for (int i = 0; i < 6; i++) {
            x.due(i, "round", i - 1, 0, 0);
        }
        x.refused(FULL, "round", 0, 0, 0);
        x.due(4, "of", 5, 1);
        x.due(5, "drop");
        x.due(5, "round", 5, 5, 5);
        x.refused(FULL, "round", 0, 0, 0);
    }

    @Said(where = "Promise 3", words = "A STRAIGHT: its number.")
    void straightsAreNumberedFromZeroOn() {
        x.due(0, "straight", 0, -30);
        x.due(1, "straight", 5, 30);
        x.due(1, "drop");
        x.due(1, "straight", 3, 0);
        x.due(3, "of", 1, 4);
        x.due(0, "of", 1, 5);
        x.due(2, "round", 0, 0, 0);
        x.due(3, "straight", 1, 7);
        x.due(7, "of", 3, 5);
    }

    @Said(where = "Promise 3", words = "BEYOND.")
    void straightBeyond() {
        x.beyond(0, 0, 5, "straight", 0, 0);
        x.beyond(1, -30, 30, "straight", 0, 0);
        x.due(0, "count", 0);
        x.due(0, "straight", 0, -30);
        x.due(1, "straight", 5, 30);
    }

    @Said(where = "Promise 3", words = "FULL.")
    void straightFull() {
        for (int i = 0; i < 6; i++) {
            x.due(i, "straight", i, i);
        }
        x.refused(FULL, "straight", 0, 0);
        x.due(5, "of", 5, 5);
        x.due(5, "drop");
        x.due(5, "straight", 0, 0);
        x.refused(FULL, "straight", 0, 0);
    }

    // ---- 4: of

    @Said(where = "Promise 4", words = "Of a SHAPE: what 0 its KIND (the lowest), 1 x, 2 y, 3 RADIUS of a ROUND; 4 SLANT, 5 c of a "
        + "STRAIGHT; 6 to 9 numbers of its FORM.")
    void ofFromWhat0To9() {
        x.due(0, "round", -5, 4, 3);
        x.due(1, "straight", 4, -30);
        int[] round = {1, -5, 4, 3, 0, 0, 1, 10, -8, 32};
        int[] straight = {2, 0, 0, 0, 4, -30, 0, 3, -4, 30};
        for (int what = 0; what <= 9; what++) {
            if (what < 4 || what > 5) {
                x.due(round[what], "of", 0, what);
            }
            if (what < 1 || what > 3) {
                x.due(straight[what], "of", 1, what);
            }
        }
    }

    @Said(where = "Promise 4", words = "Of a SHAPE: what 0 its KIND (the lowest), 1 x, 2 y, 3 RADIUS of a ROUND; 4 SLANT, 5 c of a "
        + "STRAIGHT; 6 to 9 numbers of its FORM.")
    void theLowestKind() {
        sixShapes();
        kindsAre(1, 3, 2, 4, 1, 4);
    }

    @Said(where = "Promise 4", words = "BEYOND.")
    void ofBeyond() {
        x.refused(BEYOND, "of", 0, 0);
        x.due(0, "round", 0, 0, 0);
        x.due(1, "straight", 0, 0);
        x.beyond(0, 0, 1, "of", 0, 0);
        x.beyond(1, 0, 9, "of", 0, 0);
        x.beyond(1, 0, 9, "of", 1, 0);
        x.due(1, "drop");
        x.refused(BEYOND, "of", 1, 0);
        x.refused(BEYOND, "of", 1, 9);
    }

    @Said(where = "Promise 4", words = "KIND: it is the other one.")
    void ofTheOtherKind() {
        sixShapes();
        for (int i = 0; i < 6; i++) {
            boolean round = i == 0 || i == 1 || i == 4;
            for (int what = round ? 4 : 1; what <= (round ? 5 : 3); what++) {
                x.refused(KIND, "of", i, what);
            }
        }
    }

    // ---- 5: change

    @Said(where = "Promise 5", words = "x (what 1), y, RADIUS, SLANT, c of a SHAPE becomes v: what it was.")
    void changeToTheUtmost() {
        x.due(0, "round", 1, 2, 3);
        x.due(1, "straight", 2, 7);
        int[] was = {0, 1, 2, 3, 2, 7};
        int[] least = {0, -5, -5, 0, 0, -30};
        int[] most = {0, 5, 5, 5, 5, 30};
        for (int what = 1; what <= 5; what++) {
            int i = what < 4 ? 0 : 1;
            x.due(was[what], "change", i, what, least[what]);
            x.due(least[what], "of", i, what);
            x.due(least[what], "change", i, what, most[what]);
            x.due(most[what], "of", i, what);
            x.due(most[what], "change", i, what, most[what]);
        }
        x.due(25, "of", 0, 9);
        x.due(-3, "of", 1, 8);
    }

    @Said(where = "Promise 5", words = "x (what 1), y, RADIUS, SLANT, c of a SHAPE becomes v: what it was.")
    void changeAcrossKindsAndBack() {
        x.due(0, "round", 0, 0, 1);
        x.due(1, "straight", 2, 0);
        x.due(1, "change", 0, 3, 0);
        x.due(2, "change", 1, 4, 1);
        kindsAre(3, 4);
        x.due(0, "change", 0, 3, 1);
        x.due(1, "change", 1, 4, 2);
        kindsAre(1, 2);
    }

    @Said(where = "Promise 5", words = "x (what 1), y, RADIUS, SLANT, c of a SHAPE becomes v: what it was.")
    void changedShapesHaveOtherAnswers() {
        threePoints(x);
        x.due(5, "answer", 0, 2, 0);
        x.due(5, "change", 2, 1, 0);
        // 0, 0 and the POINTS 3, 4 and -3, 4: 9 + (4 - y)(4 - y) = y y
        x.due(25, "answer", 0, 2, 0);
        x.due(8, "answer", 0, 2, 3);
    }

    @Said(where = "Promise 5", words = "BEYOND: no such SHAPE, what.")
    void changeBeyondShapeAndWhat() {
        x.refused(BEYOND, "change", 0, 1, 0);
        x.due(0, "round", 0, 0, 0);
        x.due(1, "straight", 0, 0);
        x.beyond(0, 0, 1, "change", 0, 1, 0);
        x.beyond(1, 1, 5, "change", 0, 0, 0);
        x.beyond(1, 1, 5, "change", 1, 0, 0);
        x.due(1, "drop");
        x.refused(BEYOND, "change", 1, 5, 0);
    }

    @Said(where = "Promise 5", words = "KIND: it is the other one.")
    void changeOfTheOtherKind() {
        sixShapes();
        for (int i = 0; i < 6; i++) {
            boolean round = i == 0 || i == 1 || i == 4;
            for (int what = round ? 4 : 1; what <= (round ? 5 : 3); what++) {
                x.refused(KIND, "change", i, what, 1);
                x.refused(KIND, "change", i, what, 99);
            }
        }
    }

    @Said(where = "Promise 5", words = "BEYOND: v.")
    void changeBeyondV() {
        x.due(0, "round", 1, 2, 3);
        x.due(1, "straight", 4, 7);
        x.beyond(2, -5, 5, "change", 0, 1, 0);
        x.beyond(2, -5, 5, "change", 0, 2, 0);
        x.beyond(2, 0, 5, "change", 0, 3, 0);
        x.beyond(2, 0, 5, "change", 1, 4, 0);
        x.beyond(2, -30, 30, "change", 1, 5, 0);
        for (int what = 1; what <= 3; what++) {
            x.due(what, "of", 0, what);
        }
        x.due(4, "of", 1, 4);
        x.due(7, "of", 1, 5);
    }

    // ---- 6: as

    @Said(where = "Promise 6", words = "A SHAPE as one of a KIND: RADIUS of a ROUND, c of a STRAIGHT (of any SHAPE, if as 0).")
    void asEachKind() {
        x.due(0, "round", 1, 1, 5);
        x.due(1, "round", 2, 2, 0);
        x.due(2, "straight", 2, -30);
        x.due(3, "straight", 1, 30);
        int[] told = {5, 0, -30, 30};
        int[] upper = {1, 1, 2, 2};
        for (int i = 0; i < 4; i++) {
            x.due(told[i], "as", i, 0);
            x.due(told[i], "as", i, upper[i]);
        }
        x.due(0, "as", 1, 3);
        x.due(30, "as", 3, 4);
    }

    @Said(where = "Promise 6", words = "BEYOND: also as.")
    void asBeyond() {
        x.refused(BEYOND, "as", 0, 0);
        x.due(0, "round", 0, 0, 0);
        x.due(1, "straight", 0, 0);
        x.beyond(0, 0, 1, "as", 0, 0);
        x.beyond(1, 0, 4, "as", 0, 0);
        x.beyond(1, 0, 4, "as", 1, 0);
    }

    @Said(where = "Promise 6", words = "KIND: it is not of that KIND, nor of one under it.")
    void asAnotherKind() {
        sixShapes();
        int[][] others = {{2, 3, 4}, {2, 4}, {1, 3, 4}, {1, 3}, {2, 3, 4}, {1, 3}};
        for (int i = 0; i < 6; i++) {
            for (int kind : others[i]) {
                x.refused(KIND, "as", i, kind);
            }
        }
    }

    // ---- 7, 8: drop, prune

    @Said(where = "Promise 7", words = "The last SHAPE goes: how many are left.")
    void dropDownToNothing() {
        sixShapes();
        x.due(5, "drop");
        kindsAre(1, 3, 2, 4, 1);
        x.due(4, "drop");
        kindsAre(1, 3, 2, 4);
        x.due(3, "drop");
        x.due(2, "drop");
        x.due(1, "drop");
        kindsAre(1);
        x.due(0, "drop");
        kindsAre();
    }

    @Said(where = "Promise 7", words = "NONE: there is none.")
    void dropNone() {
        x.refused(NONE, "drop");
        x.due(0, "round", 0, 0, 0);
        x.due(0, "drop");
        x.refused(NONE, "drop");
        x.due(0, "count", 0);
        x.due(0, "straight", 0, 0);
    }

    @Said(where = "Promise 8", words = "All SHAPES of a KIND (0 to 4), and of those under it, go; others are numbered as they "
        + "follow: how many went.")
    void pruneEachKind() {
        int[] went = {6, 3, 3, 1, 2};
        int[][] left = {{}, {2, 4, 4}, {1, 3, 1}, {1, 2, 4, 1, 4}, {1, 3, 2, 1}};
        for (int kind = 0; kind <= 4; kind++) {
            sixShapes();
            x.due(went[kind], "prune", kind);
            kindsAre(left[kind]);
            x.due(0, "prune", kind);
            x.due(left[kind].length, "prune", 0);
        }
    }

    @Said(where = "Promise 8", words = "All SHAPES of a KIND (0 to 4), and of those under it, go; others are numbered as they "
        + "follow: how many went.")
    void pruneOfNothing() {
        for (int kind = 0; kind <= 4; kind++) {
            x.due(0, "prune", kind);
        }
        sixShapes();
        x.due(3, "prune", 1);
        // what is left keeps its measures, in its order; new ones follow
        x.due(2, "of", 0, 5);
        x.due(3, "of", 1, 5);
        x.due(5, "of", 2, 5);
        x.due(3, "round", 5, 5, 5);
        x.due(5, "of", 2, 5);
        x.due(3, "prune", 2);
        x.due(5, "of", 0, 3);
    }

    @Said(where = "Promise 8", words = "BEYOND.")
    void pruneBeyond() {
        x.beyond(0, 0, 4, "prune", 0);
        sixShapes();
        x.beyond(0, 0, 4, "prune", 0);
        kindsAre(1, 3, 2, 4, 1, 4);
    }

    // ---- 9, 10: swap, turn

    @Said(where = "Promise 9", words = "Two SHAPES change numbers: 1.")
    void swapFirstAndLast() {
        sixShapes();
        x.due(1, "swap", 0, 5);
        kindsAre(4, 3, 2, 4, 1, 1);
        x.due(1, "of", 5, 3);
        x.due(5, "of", 0, 5);
        x.due(1, "swap", 5, 4);
        x.due(1, "of", 4, 3);
        x.due(4, "of", 5, 3);
        x.due(1, "swap", 3, 3);
        x.due(3, "of", 3, 5);
    }

    @Said(where = "Promise 9", words = "Two SHAPES change numbers: 1.")
    void swappedShapesHaveOtherSigns() {
        straightAndTwoPoints();
        x.due(1, "swap", 1, 0);
        x.due(2, "signs", 0);
        x.due(1, "swap", 1, 2);
        x.due(4, "signs", 0);
        x.due(1, "swap", 0, 0);
        x.due(4, "signs", 0);
    }

    /** One circle touches x = 0 from its left, and goes through both POINTS: -1, 0 with r 1, by SIGNS 1. */
    private void straightAndTwoPoints() {
        x.due(0, "straight", 0, 0);
        x.due(1, "round", -1, 1, 0);
        x.due(2, "round", -1, -1, 0);
        x.due(1, "signs", 0);
    }

    @Said(where = "Promise 9", words = "BEYOND.")
    void swapBeyond() {
        x.refused(BEYOND, "swap", 0, 0);
        x.due(0, "round", 0, 0, 0);
        x.due(1, "straight", 0, 0);
        x.beyond(0, 0, 1, "swap", 0, 0);
        x.beyond(1, 0, 1, "swap", 0, 0);
        x.refused(BEYOND, "swap", 2, 2);
        kindsAre(3, 4);
    }

    @Said(where = "Promise 10", words = "SHAPES are numbered the other way round: how many there are.")
    void turnFromNoneToSix() {
        for (int many = 0; many <= 6; many++) {
            for (int i = 0; i < many; i++) {
                x.due(i, "straight", 0, i);
            }
            x.due(many, "turn");
            for (int i = 0; i < many; i++) {
                x.due(many - 1 - i, "of", i, 5);
            }
            x.due(many, "turn");
            x.due(many, "prune", 0);
        }
    }

    @Said(where = "Promise 10", words = "SHAPES are numbered the other way round: how many there are.")
    void turnedShapesHaveOtherSigns() {
        straightAndTwoPoints();
        x.due(3, "turn");
        x.due(4, "signs", 0);
        x.due(3, "straight", 1, 5);
        x.due(4, "turn");
        x.due(1, "three", 1, 2, 3);
        x.due(1, "signs", 0);
    }

    // ---- 11: lie

    private static final String LIE = "How two SHAPES lie: how many points they have in common (0, 1, 2), 3 if all are.";

    private void lies(long many) {
        x.due(many, "lie", 0, 1);
        x.due(many, "lie", 1, 0);
    }

    @Said(where = "Promise 11", words = LIE)
    void lieOfRoundsAroundTheirTouching() {
        // centres 3, 4 apart: 5; RADIUS 2 and 3 touch outside, 1 less is apart, 1 more crosses
        x.due(0, "round", 0, 0, 2);
        x.due(1, "round", 3, 4, 3);
        lies(1);
        x.due(3, "change", 1, 3, 2);
        lies(0);
        x.due(2, "change", 1, 3, 4);
        lies(2);
        // 1 apart: RADIUS 2 and 3 touch inside, 4 is around, 2 crosses
        x.due(3, "change", 1, 1, 1);
        x.due(4, "change", 1, 2, 0);
        lies(0);
        x.due(4, "change", 1, 3, 3);
        lies(1);
        x.due(3, "change", 1, 3, 2);
        lies(2);
        // one centre
        x.due(1, "change", 1, 1, 0);
        lies(3);
        x.due(2, "change", 1, 3, 1);
        lies(0);
        x.due(1, "change", 1, 3, 3);
        lies(0);
    }

    @Said(where = "Promise 11", words = LIE)
    void lieOfPoints() {
        x.due(0, "round", 3, 4, 0);
        x.due(1, "round", 3, 4, 0);
        // one point is all that either has
        lies(3);
        x.due(4, "change", 1, 2, 3);
        lies(0);
        // on a ROUND, inside of it, outside of it
        x.due(3, "change", 1, 1, 0);
        x.due(3, "change", 1, 2, 0);
        x.due(0, "change", 1, 3, 5);
        lies(1);
        x.due(4, "change", 0, 2, 3);
        lies(0);
        x.due(3, "change", 0, 2, 5);
        lies(0);
        x.due(3, "change", 0, 1, 0);
        lies(1);
        x.due(5, "change", 0, 2, 0);
        lies(0);
    }

    @Said(where = "Promise 11", words = LIE)
    void lieOfStraights() {
        x.due(0, "straight", 2, 10);
        x.due(1, "straight", 2, 10);
        lies(3);
        x.due(10, "change", 1, 5, 9);
        lies(0);
        for (int slant = 0; slant <= 5; slant++) {
            if (slant != 2) {
                x.ask("change", 1, 4, slant);
                lies(1);
            }
        }
    }

    @Said(where = "Promise 11", words = LIE)
    void lieOfStraightsAndRounds() {
        x.due(0, "straight", 0, 0);
        x.due(1, "round", 1, -1, 3);
        int[] a = {1, 0, 3, 4, 3, 4};
        int[] b = {0, 1, 4, 3, -4, -3};
        for (int slant = 0; slant <= 5; slant++) {
            x.ask("change", 0, 4, slant);
            int touching = slant <= 1 ? 3 : 15;
            for (int side = -1; side <= 1; side += 2) {
                for (int off = -1; off <= 1; off++) {
                    x.ask("change", 0, 5, a[slant] - b[slant] + side * (touching + off));
                    lies(1 - off);
                }
            }
        }
    }

    @Said(where = "Promise 11", words = LIE)
    void lieOfStraightsAndPoints() {
        x.due(0, "straight", 5, 30);
        x.due(1, "round", 3, -5, 0);
        // 12 + 15 = 27
        lies(0);
        x.due(30, "change", 0, 5, 27);
        lies(1);
        x.due(27, "change", 0, 5, 26);
        lies(0);
    }

    @Said(where = "Promise 11", words = "BEYOND: also one and the same number.")
    void lieBeyond() {
        x.refused(BEYOND, "lie", 0, 1);
        x.due(0, "round", 0, 0, 0);
        x.refused(BEYOND, "lie", 0, 1);
        x.due(1, "straight", 0, 0);
        x.beyond(0, 0, 1, "lie", 0, 0);
        x.beyond(1, 0, 1, "lie", 0, 0);
        x.refused(BEYOND, "lie", 0, 0);
        x.refused(BEYOND, "lie", 1, 1);
        x.due(1, "lie", 0, 1);
    }

    // ---- 12: power

    @Said(where = "Promise 12", words = "POWER of a SHAPE in a point (x and y -99 to 99).")
    void powerInTheCorners() {
        x.due(0, "round", 1, -2, 3);
        x.due(1, "straight", 4, -30);
        for (int px = -99; px <= 99; px += 99) {
            for (int py = -99; py <= 99; py += 99) {
                x.due((px - 1) * (px - 1) + (py + 2) * (py + 2) - 9, "power", 0, px, py);
                x.due(3 * px - 4 * py + 30, "power", 1, px, py);
            }
        }
    }

    @Said(where = "Promise 12", words = "BEYOND.")
    void powerBeyond() {
        x.refused(BEYOND, "power", 0, 0, 0);
        x.due(0, "round", 0, 0, 1);
        x.due(1, "straight", 0, 0);
        x.beyond(0, 0, 1, "power", 0, 0, 0);
        for (int i = 0; i < 2; i++) {
            x.beyond(1, -99, 99, "power", i, 0, 0);
            x.beyond(2, -99, 99, "power", i, 0, 0);
        }
    }

    // ---- 13: radical

    private static final String RADICAL = "Points in which two ROUNDS have like POWERS: number what (0 to 2) of u, v, w: "
        + "u x + v y = w, LOWEST of these (of u, v the first that isn't 0 above 0).";

    private void likePowers(long u, long v, long w) {
        for (int n = 0; n < 2; n++) {
            x.due(u, "radical", n, 1 - n, 0);
            x.due(v, "radical", n, 1 - n, 1);
            x.due(w, "radical", n, 1 - n, 2);
        }
    }

    @Said(where = "Promise 13", words = RADICAL)
    void radicalWithEitherSign() {
        // 2 x X + 2 y Y = X X + Y Y - RADIUS RADIUS + 1
        x.due(0, "round", 0, 0, 1);
        x.due(1, "round", 4, 2, 1);
        likePowers(2, 1, 5);
        x.due(4, "change", 1, 1, -4);
        likePowers(2, -1, -5);
        x.due(-4, "change", 1, 1, 0);
        likePowers(0, 1, 1);
        x.due(2, "change", 1, 2, -2);
        likePowers(0, 1, -1);
        x.due(0, "change", 1, 1, 5);
        x.due(-2, "change", 1, 2, 0);
        likePowers(2, 0, 5);
        x.due(5, "change", 1, 1, -5);
        likePowers(2, 0, -5);
    }

    @Said(where = "Promise 13", words = RADICAL)
    void radicalOfPointsAndOfWZero() {
        x.due(0, "round", -3, 0, 0);
        x.due(1, "round", 3, 0, 0);
        likePowers(1, 0, 0);
        // -16 y = -16: both POINTS on one line
        x.due(-3, "change", 0, 1, 0);
        x.due(3, "change", 1, 1, 0);
        x.due(0, "change", 0, 2, 5);
        x.due(0, "change", 1, 2, -3);
        likePowers(0, 1, 1);
        // RADIUS counts: 16 y = 25 - 9 + 9
        x.due(0, "change", 1, 3, 3);
        likePowers(0, 16, 25);
    }

    @Said(where = "Promise 13", words = "BEYOND: also one and the same number, what.")
    void radicalBeyond() {
        x.refused(BEYOND, "radical", 0, 1, 0);
        x.due(0, "round", 0, 0, 1);
        x.refused(BEYOND, "radical", 0, 1, 0);
        x.due(1, "round", 4, 0, 1);
        x.beyond(0, 0, 1, "radical", 0, 0, 0);
        x.beyond(1, 0, 1, "radical", 0, 0, 0);
        x.beyond(2, 0, 2, "radical", 0, 1, 0);
        x.refused(BEYOND, "radical", 0, 0, 0);
        x.refused(BEYOND, "radical", 1, 1, 2);
    }

    @Said(where = "Promise 13", words = "KIND: one is no ROUND.")
    void radicalKind() {
        x.due(0, "round", 0, 0, 1);
        x.due(1, "straight", 0, 0);
        x.due(2, "straight", 2, 0);
        x.refused(KIND, "radical", 0, 1, 0);
        x.refused(KIND, "radical", 1, 0, 0);
        x.refused(KIND, "radical", 1, 2, 2);
        x.refused(KIND, "radical", 2, 0, 2);
        x.due(3, "round", 1, 0, 0);
        x.due(1, "radical", 0, 3, 0);
    }

    @Said(where = "Promise 13", words = "NONE: they have the same centre.")
    void radicalNone() {
        x.due(0, "round", 2, -3, 1);
        x.due(1, "round", 2, -3, 1);
        x.due(2, "round", 2, -3, 4);
        x.due(3, "round", 2, -3, 0);
        for (int i = 0; i < 4; i++) {
            for (int j = 0; j < 4; j++) {
                if (i != j) {
                    x.refused(NONE, "radical", i, j, (i + j) % 3);
                }
            }
        }
        x.due(-3, "change", 1, 2, -2);
        x.due(0, "radical", 0, 1, 0);
        x.due(2, "change", 2, 1, 3);
        x.due(1, "radical", 0, 2, 0);
    }

    // ---- 14: ring

    private static final String RING = "Whether a ring of n circles, each touching the one ahead, the last the first, all touching "
        + "both of two ROUNDS that have RADIUS above 0 and no point in common, would close, going round once: n. Let N be "
        + "their squares of RADIUS, together, less the square of how far their centres are apart, without its sign, M "
        + "twice both RADIUS times one another: it is 6, if 3 N is 5 M; 4, if N is 3 M; 3, if N is 7 M.";

    private void rings(long n) {
        x.due(n, "ring", 0, 1);
        x.due(n, "ring", 1, 0);
    }

    @Said(where = "Promise 14", words = RING)
    void ringsInsideAndOutside() {
        // N 10, M 6; then 20 apart squared, so that N is -10 ahead of its sign
        x.due(0, "round", 0, 0, 1);
        x.due(1, "round", 0, 0, 3);
        rings(6);
        x.due(0, "change", 1, 1, 2);
        x.due(0, "change", 1, 2, 4);
        rings(6);
        // both RADIUS 1, M 2: 8 apart squared, N 6; 16, N 14
        x.due(3, "change", 1, 3, 1);
        x.due(4, "change", 1, 2, 2);
        rings(4);
        x.due(2, "change", 1, 1, 4);
        x.due(2, "change", 1, 2, 0);
        rings(3);
    }

    @Said(where = "Promise 14", words = RING)
    void ringsOfGreaterRounds() {
        // RADIUS 2 and 2, M 8: 64 apart squared, N 56; 32, N 24
        x.due(0, "round", -4, 0, 2);
        x.due(1, "round", 4, 0, 2);
        rings(3);
        x.due(4, "change", 1, 1, 0);
        x.due(0, "change", 1, 2, 4);
        rings(4);
    }

    @Said(where = "Promise 14", words = "BEYOND: also one and the same number.")
    void ringBeyond() {
        x.refused(BEYOND, "ring", 0, 1);
        x.due(0, "round", 0, 0, 1);
        x.refused(BEYOND, "ring", 0, 1);
        x.due(1, "round", 0, 0, 3);
        x.beyond(0, 0, 1, "ring", 0, 0);
        x.beyond(1, 0, 1, "ring", 0, 0);
        x.refused(BEYOND, "ring", 0, 0);
        x.refused(BEYOND, "ring", 1, 1);
        rings(6);
    }

    @Said(where = "Promise 14", words = "KIND: one is no ROUND, or a POINT.")
    void ringKind() {
        x.due(0, "round", 0, 0, 1);
        x.due(1, "round", 5, 0, 0);
        x.due(2, "straight", 0, 3);
        x.due(3, "straight", 2, 30);
        for (int i = 1; i < 4; i++) {
            x.refused(KIND, "ring", 0, i);
            x.refused(KIND, "ring", i, 0);
            x.refused(KIND, "ring", i, i == 3 ? 1 : i + 1);
        }
        // both RADIUS 0 at one place: N is M times anything
        x.due(4, "round", 5, 0, 0);
        x.refused(KIND, "ring", 1, 4);
        x.due(0, "change", 1, 3, 1);
        x.refused(NONE, "ring", 0, 1);
    }

    @Said(where = "Promise 14", words = "STATE: they have a point in common.")
    void ringState() {
        x.due(0, "round", 0, 0, 2);
        x.due(1, "round", 4, 0, 2);
        // touching outside, crossing, the same, touching inside
        x.refused(STATE, "ring", 0, 1);
        x.due(4, "change", 1, 1, 3);
        x.refused(STATE, "ring", 1, 0);
        x.due(3, "change", 1, 1, 0);
        x.refused(STATE, "ring", 0, 1);
        x.due(0, "change", 1, 1, 1);
        x.due(2, "change", 1, 3, 1);
        x.refused(STATE, "ring", 0, 1);
        x.refused(STATE, "ring", 1, 0);
        // within it, and outside of it
        x.due(1, "change", 1, 1, 0);
        x.refused(NONE, "ring", 0, 1);
        x.due(0, "change", 1, 1, 4);
        x.refused(NONE, "ring", 0, 1);
    }

    @Said(where = "Promise 14", words = "NONE: else.")
    void ringNone() {
        // next to the closing ones: N 15 instead of 14, N 8 instead of 6, N 9 instead of 10
        x.due(0, "round", 0, 0, 1);
        x.due(1, "round", 4, 1, 1);
        x.refused(NONE, "ring", 0, 1);
        x.due(4, "change", 1, 1, 3);
        x.refused(NONE, "ring", 0, 1);
        x.due(3, "change", 1, 1, 1);
        x.due(1, "change", 1, 3, 3);
        x.due(1, "change", 1, 2, 0);
        x.refused(NONE, "ring", 0, 1);
        x.refused(NONE, "ring", 1, 0);
    }
}
