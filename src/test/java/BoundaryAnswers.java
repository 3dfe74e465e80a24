/** Boundary cases of promises 15 to 23: the three, answers. */
final class BoundaryAnswers extends Boundary {
    private void theThreeAre(int i, int j, int k) {
        x.due(i, "ofThree", 0);
        x.due(j, "ofThree", 1);
        x.due(k, "ofThree", 2);
    }

    /** The call is refused with STATE whichever of THE THREE isn't there, and not when they are back. */
    private void stateWhicheverIsNotThere(String name, long... arguments) {
        x.refused(STATE, name, arguments);
        threePoints(x);
        x.ask(name, arguments);
        int[][] orders = {{2, 0, 1}, {0, 2, 1}, {1, 0, 2}};
        for (int[] order : orders) {
            x.due(1, "three", order[0], order[1], order[2]);
            x.due(2, "drop");
            x.refused(STATE, name, arguments);
            x.due(2, "round", 5, 0, 0);
            x.due(1, "answers", 0);
        }
        x.due(0, "status", 3);
        x.due(4, "status", 4);
    }

    /** The call is refused with NONE for a k just outside of the ANSWERS that there are, and far outside. */
    private void noneOutsideOfAnswers(int many, String name, long... arguments) {
        long[] outside = {-1, many, Integer.MIN_VALUE, Integer.MAX_VALUE};
        for (long k : outside) {
            long[] changed = arguments.clone();
            changed[name.equals("put") ? 1 : 0] = k;
            x.refused(NONE, name, changed);
        }
    }

    /** Three POINTS in a row: no ANSWER. */
    private void noAnswers() {
        x.due(0, "round", 0, 0, 0);
        x.due(1, "round", 1, 0, 0);
        x.due(2, "round", 2, 0, 0);
        x.due(0, "answers", 0);
    }

    // ---- 15, 16: three, ofThree

    @Said(where = "Promise 15", words = "THE THREE become these: 1.")
    void threeInAnyOrder() {
        for (int i = 0; i < 6; i++) {
            x.due(i, "round", i - 2, 0, 0);
        }
        x.due(1, "three", 5, 0, 3);
        theThreeAre(5, 0, 3);
        x.due(1, "three", 3, 5, 0);
        theThreeAre(3, 5, 0);
        x.due(1, "three", 0, 1, 2);
        theThreeAre(0, 1, 2);
    }

    @Said(where = "Promise 15", words = "BEYOND: no such SHAPE, or two are the same number.")
    void threeBeyond() {
        x.refused(BEYOND, "three", 0, 1, 2);
        x.due(0, "round", 0, 0, 0);
        x.due(1, "round", 1, 0, 0);
        x.refused(BEYOND, "three", 0, 1, 2);
        x.due(2, "round", 2, 0, 0);
        x.due(3, "round", 3, 0, 0);
        x.due(1, "three", 3, 2, 1);
        x.beyond(0, 0, 3, "three", 0, 1, 2);
        x.beyond(1, 0, 3, "three", 0, 0, 2);
        x.beyond(2, 0, 3, "three", 0, 1, 0);
        x.refused(BEYOND, "three", 0, 0, 2);
        x.refused(BEYOND, "three", 0, 2, 0);
        x.refused(BEYOND, "three", 2, 0, 0);
        x.refused(BEYOND, "three", 0, 0, 0);
        theThreeAre(3, 2, 1);
    }

    @Said(where = "Promise 16", words = "The k-th (0 to 2) of THE THREE.")
    void ofThreeFirstAndLast() {
        theThreeAre(0, 1, 2);
        for (int i = 0; i < 6; i++) {
            x.due(i, "straight", i, 0);
        }
        x.due(1, "three", 4, 5, 3);
        theThreeAre(4, 5, 3);
        // numbers stay when SHAPES change theirs
        x.due(6, "turn");
        x.due(1, "swap", 0, 4);
        x.due(5, "drop");
        theThreeAre(4, 5, 3);
    }

    @Said(where = "Promise 16", words = "BEYOND.")
    void ofThreeBeyond() {
        x.beyond(0, 0, 2, "ofThree", 0);
        threePoints(x);
        x.beyond(0, 0, 2, "ofThree", 0);
    }

    // ---- 17: draw

    private static final String DRAW = "A draw: of all sets of three SHAPES (by the least number, of like ones the next, then the "
        + "last) the one of which the number is its rest by how many there are; THE THREE become it, the least first: "
        + "that number.";

    @Said(where = "Promise 17", words = DRAW)
    void drawOfThreeToSixShapes() {
        int[] sets = {0, 0, 0, 1, 4, 10, 20};
        for (int many = 1; many <= 6; many++) {
            x.due(many - 1, "straight", 0, many);
            for (int n = 0; many >= 3 && n < 6; n++) {
                int z = (int) x.ask("count", 4) * 1103515245 + 12345;
                x.due((z >>> 8) % sets[many], "draw");
                x.due(z, "count", 4);
            }
        }
    }

    @Said(where = "Promise 17", words = DRAW)
    void drawEachOfTwentySets() {
        for (int i = 0; i < 6; i++) {
            x.due(i, "straight", 0, i);
        }
        int number = 0;
        for (int i = 0; i < 6; i++) {
            for (int j = i + 1; j < 6; j++) {
                for (int k = j + 1; k < 6; k++) {
                    x.ask("seed", seedFor(number, 20));
                    x.due(number, "draw");
                    theThreeAre(i, j, k);
                    number++;
                }
            }
        }
    }

    @Said(where = "Promise 17", words = DRAW)
    void drawEachOfFourSets() {
        for (int i = 0; i < 4; i++) {
            x.due(i, "straight", 0, i);
        }
        int[][] sets = {{0, 1, 2}, {0, 1, 3}, {0, 2, 3}, {1, 2, 3}};
        for (int number = 0; number < 4; number++) {
            x.ask("seed", seedFor(number, 4));
            x.due(number, "draw");
            theThreeAre(sets[number][0], sets[number][1], sets[number][2]);
        }
    }

    /** Looked for below 0, so that the sign of what is drawn counts, too. */
    private static int seedFor(int number, int sets) {
        int v = -1;
        while ((v * 1103515245 + 12345 >>> 8) % sets != number || v * 1103515245 + 12345 >= 0) {
            v--;
        }
        return v;
    }

    @Said(where = "Promise 17", words = DRAW)
    void answersAreThoseOfWhatWasDrawn() {
        threePoints(x);
        x.due(1, "three", 2, 0, 1);
        x.due(1, "answers", 0);
        x.due(3, "straight", 0, 5);
        x.ask("seed", seedFor(1, 4));
        x.due(1, "draw");
        // 0, 1 and the STRAIGHT x = 5, which touches the circle about 0, 0 with r 5
        x.due(1, "touches", 0, 0);
        x.due(2, "touches", 0, 3);
        x.due(2, "answers", 0);
    }

    @Said(where = "Promise 17", words = "STATE: there are fewer than three (nothing is drawn).")
    void drawState() {
        for (int many = 0; many < 3; many++) {
            x.refused(STATE, "draw");
            x.due(1, "count", 4);
            theThreeAre(0, 1, 2);
            x.due(many, "round", many, 0, 0);
        }
        x.due(0, "draw");
        x.due(1103527590, "count", 4);
        x.due(2, "drop");
        x.refused(STATE, "draw");
        x.due(1103527590, "count", 4);
    }

    // ---- 18: answers

    @Said(where = "Promise 18", words = "How many ANSWERS (what 0); SIGNS that are LOOSE, as a set (bit n for SIGNS n) (1); SIGNS by "
        + "which there is any ANSWER, likewise (2).")
    void answersFromNoneToAll() {
        threeRounds(x);
        x.due(8, "answers", 0);
        x.due(0, "answers", 1);
        x.due(255, "answers", 2);
        // all alike: LOOSE where two bits are alike, and of three bits two always are
        x.due(5, "change", 1, 1, 0);
        x.due(2, "change", 1, 3, 1);
        x.due(1, "change", 2, 1, 0);
        x.due(4, "change", 2, 2, 0);
        x.due(0, "answers", 0);
        x.due(255, "answers", 1);
        x.due(0, "answers", 2);
    }

    @Said(where = "Promise 18", words = "How many ANSWERS (what 0); SIGNS that are LOOSE, as a set (bit n for SIGNS n) (1); SIGNS by "
        + "which there is any ANSWER, likewise (2).")
    void twoAnswersByLikeSignsAreOneBit() {
        x.due(0, "straight", 0, 0);
        x.due(1, "straight", 1, 0);
        x.due(2, "round", 1, 2, 0);
        x.due(2, "answers", 0);
        x.due(1, "answers", 2);
    }

    @Said(where = "Promise 18", words = "BEYOND.")
    void answersBeyond() {
        x.beyond(0, 0, 2, "answers", 0);
        threePoints(x);
        x.beyond(0, 0, 2, "answers", 0);
    }

    @Said(where = "Promise 18", words = "STATE: one of THE THREE isn't there.")
    void answersState() {
        for (int what = 0; what <= 2; what++) {
            x.refused(STATE, "answers", what);
        }
        Run y = new Run();
        threePoints(y);
        y.due(1, "answers", 0);
        y.due(3, "prune", 3);
        y.refused(STATE, "answers", 0);
    }

    @Said(where = "Promise 18", words = "STATE: one of THE THREE isn't there.")
    void answersStateWhicheverIsNotThere() {
        stateWhicheverIsNotThere("answers", 0);
    }

    // ---- 19: signs

    @Said(where = "Promise 19", words = "SIGNS of the k-th ANSWER.")
    void signsOfFirstAndLast() {
        threeStraights(x);
        int[] signs = {0, 4, 5, 6};
        for (int k = 0; k < 4; k++) {
            x.due(signs[k], "signs", k);
        }
    }

    @Said(where = "Promise 19", words = "STATE likewise.")
    void signsState() {
        stateWhicheverIsNotThere("signs", 0);
    }

    @Said(where = "Promise 19", words = "NONE.")
    void signsNone() {
        threeStraights(x);
        noneOutsideOfAnswers(4, "signs", 0);
        Run y = new Run();
        threeRounds(y);
        y.due(7, "signs", 7);
        y.refused(NONE, "signs", 8);
    }

    @Said(where = "Promise 19", words = "NONE.")
    void signsNoneWhereThereIsNoAnswer() {
        noAnswers();
        x.refused(NONE, "signs", 0);
        x.refused(NONE, "signs", -1);
    }

    // ---- 20: answer

    @Said(where = "Promise 20", words = "Of the k-th ANSWER: of x (which 0), y (1), r (2) p (what 0), q (1), d (2), m (3).")
    void answerInEachPart() {
        threeRounds(x);
        x.part(0, 0, 1903, 8, 3162, 766);
        x.part(0, 1, 576, -1, 3162, 383);
        x.part(0, 2, 1089, 40, 3162, 766);
        x.part(3, 0, 1249, -8, 1794, 526);
        x.part(3, 1, 288, 11, 1794, 263);
        x.part(3, 2, -459, 40, 1794, 526);
    }

    @Said(where = "Promise 20", words = "BEYOND: which, what.")
    void answerBeyond() {
        x.beyond(1, 0, 2, "answer", 0, 0, 0);
        x.beyond(2, 0, 3, "answer", 0, 0, 0);
        threePoints(x);
        x.beyond(1, 0, 2, "answer", 0, 0, 0);
        x.beyond(2, 0, 3, "answer", 0, 0, 0);
        x.refused(BEYOND, "answer", 1, 3, 0);
    }

    @Said(where = "Promise 20", words = "STATE, NONE likewise.")
    void answerState() {
        stateWhicheverIsNotThere("answer", 0, 0, 0);
    }

    @Said(where = "Promise 20", words = "STATE, NONE likewise.")
    void answerNone() {
        threeStraights(x);
        noneOutsideOfAnswers(4, "answer", 0, 2, 3);
        x.due(3, "answer", 3, 2, 0);
    }

    @Said(where = "Promise 20", words = "STATE, NONE likewise.")
    void answerNoneWhereThereIsNoAnswer() {
        noAnswers();
        x.refused(NONE, "answer", 0, 0, 0);
    }

    // ---- 21: best

    private static final String BEST = "The ANSWER with the greatest r (what 0), the least (1); of several the least number.";

    @Said(where = "Promise 21", words = BEST)
    void bestOfUnlikeRoots() {
        threeRounds(x);
        x.due(1, "best", 0);
        x.due(7, "best", 1);
    }

    @Said(where = "Promise 21", words = BEST)
    void bestOfOne() {
        threePoints(x);
        x.due(0, "best", 0);
        x.due(0, "best", 1);
    }

    @Said(where = "Promise 21", words = BEST)
    void bestOfSeveralIsTheLeastNumber() {
        // r is 1 for all three
        x.due(0, "straight", 0, 0);
        x.due(1, "straight", 0, 2);
        x.due(2, "round", 1, 0, 1);
        x.due(3, "answers", 0);
        x.due(0, "best", 0);
        x.due(0, "best", 1);
        // two circles with r 15 by 2, one above both ROUNDS, one below
        Run y = new Run();
        y.due(0, "round", -4, 0, 1);
        y.due(1, "round", 4, 0, 1);
        y.due(2, "round", 0, 0, 0);
        y.due(2, "answers", 0);
        y.part(1, 2, 15, 0, 0, 2);
        y.due(0, "best", 0);
        y.due(0, "best", 1);
    }

    @Said(where = "Promise 21", words = BEST)
    void theGreatestStandTwiceBehindALesserOne() {
        // -1, 0 with r 2; 1, -4 and 1, 4 with r 4
        x.due(0, "straight", 0, -3);
        x.due(1, "round", -2, 0, 1);
        x.due(2, "round", 1, 0, 0);
        x.due(3, "answers", 0);
        x.due(1, "best", 0);
        x.due(0, "best", 1);
    }

    @Said(where = "Promise 21", words = BEST)
    void theLeastStandTwiceBehindAGreaterOne() {
        // r by number: 1, 1 by 3, 1 by 3, 1, 1
        x.due(0, "round", 0, 1, 1);
        x.due(1, "round", 1, 1, 2);
        x.due(2, "round", -1, 1, 2);
        x.due(5, "answers", 0);
        x.due(0, "best", 0);
        x.due(1, "best", 1);
    }

    @Said(where = "Promise 21", words = "BEYOND.")
    void bestBeyond() {
        x.beyond(0, 0, 1, "best", 0);
        threePoints(x);
        x.beyond(0, 0, 1, "best", 0);
        Run y = new Run();
        y.due(0, "round", 0, 0, 0);
        y.due(1, "round", 1, 0, 0);
        y.due(2, "round", 2, 0, 0);
        y.refused(BEYOND, "best", 2);
    }

    @Said(where = "Promise 21", words = "STATE likewise.")
    void bestState() {
        stateWhicheverIsNotThere("best", 1);
    }

    @Said(where = "Promise 21", words = "NONE: there are none.")
    void bestNone() {
        noAnswers();
        x.refused(NONE, "best", 0);
        x.refused(NONE, "best", 1);
        x.due(0, "change", 2, 2, 1);
        x.due(0, "best", 0);
    }

    // ---- 22: rank

    @Said(where = "Promise 22", words = "How many ANSWERS have a lesser r than the k-th.")
    void rankFromNoneToAllOthers() {
        threeStraights(x);
        int[] ranks = {3, 0, 1, 2};
        for (int k = 0; k < 4; k++) {
            x.due(ranks[k], "rank", k);
        }
    }

    @Said(where = "Promise 22", words = "How many ANSWERS have a lesser r than the k-th.")
    void likeOnesAreNotLesser() {
        x.due(0, "straight", 0, 0);
        x.due(1, "straight", 0, 2);
        x.due(2, "round", 1, 0, 1);
        for (int k = 0; k < 3; k++) {
            x.due(0, "rank", k);
        }
        // r by number: 1, 1 by 3, 1 by 3, 1, 1
        Run y = new Run();
        y.due(0, "round", 0, 1, 1);
        y.due(1, "round", 1, 1, 2);
        y.due(2, "round", -1, 1, 2);
        int[] ranks = {2, 0, 0, 2, 2};
        for (int k = 0; k < 5; k++) {
            y.due(ranks[k], "rank", k);
        }
    }

    @Said(where = "Promise 22", words = "How many ANSWERS have a lesser r than the k-th.")
    void rankOfUnlikeRoots() {
        threeRounds(x);
        int[] ranks = {6, 7, 3, 2, 5, 4, 1, 0};
        for (int k = 0; k < 8; k++) {
            x.due(ranks[k], "rank", k);
        }
    }

    @Said(where = "Promise 22", words = "STATE, NONE likewise.")
    void rankState() {
        stateWhicheverIsNotThere("rank", 0);
    }

    @Said(where = "Promise 22", words = "STATE, NONE likewise.")
    void rankNone() {
        threeStraights(x);
        noneOutsideOfAnswers(4, "rank", 0);
    }

    @Said(where = "Promise 22", words = "STATE, NONE likewise.")
    void rankNoneWhereThereIsNoAnswer() {
        noAnswers();
        x.refused(NONE, "rank", 0);
    }

    // ---- 23: touches

    private static final String TOUCHES = "Whether the k-th ANSWER TOUCHES a SHAPE (any one): 1 with bit 0, 2 with bit 1, 0 not.";

    @Said(where = "Promise 23", words = TOUCHES)
    void touchesAnyShape() {
        // the circle about 0, 0 with r 5: a ROUND outside, one within, one across, one around; a STRAIGHT on either side
        threePoints(x);
        x.due(3, "round", 5, 0, 2);
        x.due(0, "touches", 0, 3);
        x.due(5, "change", 3, 1, 3);
        x.due(1, "touches", 0, 3);
        x.due(3, "change", 3, 1, 2);
        x.due(0, "touches", 0, 3);
        x.due(4, "straight", 2, 25);
        x.due(2, "touches", 0, 4);
        x.due(5, "straight", 4, -25);
        x.due(1, "touches", 0, 5);
        x.due(-25, "change", 5, 5, -24);
        x.due(0, "touches", 0, 5);
        for (int i = 0; i < 3; i++) {
            x.due(1, "touches", 0, i);
        }
    }

    @Said(where = "Promise 23", words = TOUCHES)
    void touchesWithRoots() {
        // through 1, 1 in the corner: 2 -+ root 2, which touch all that lies alike on the other side of the middle line
        x.due(0, "straight", 0, 0);
        x.due(1, "straight", 1, 0);
        x.due(2, "round", 1, 1, 0);
        for (int k = 0; k < 2; k++) {
            for (int i = 0; i < 3; i++) {
                x.due(1, "touches", k, i);
            }
        }
        x.due(3, "round", 1, 1, 1);
        x.due(0, "touches", 0, 3);
        x.due(0, "touches", 1, 3);
        // the second one's STRAIGHT x = 4 + 2 root 2 isn't whole: 6 and 7 are beside it; 4 would do but for the root
        x.due(4, "straight", 0, 6);
        x.due(5, "straight", 0, 7);
        x.due(0, "touches", 1, 4);
        x.due(0, "touches", 1, 5);
        x.due(6, "change", 4, 5, 4);
        x.due(0, "touches", 0, 4);
        x.due(0, "touches", 1, 4);
    }

    @Said(where = "Promise 23", words = TOUCHES)
    void touchesOnlyIfTheRootsAreAlikeToo() {
        // the circles about 2 -+ root 2, 5 by 2 with r 5 by 2; from -2, -1 they are 121 by 4 -+ 8 root 2 apart, squared
        x.due(0, "straight", 1, 5);
        x.due(1, "round", 2, 3, 1);
        x.due(2, "round", 2, 2, 4);
        x.due(3, "round", -2, -1, 3);
        x.part(0, 0, 2, -1, 2, 1);
        x.part(1, 0, 2, 1, 2, 1);
        for (int k = 0; k < 2; k++) {
            x.part(k, 1, 5, 0, 0, 2);
            x.part(k, 2, 5, 0, 0, 2);
            x.due(2, "touches", k, 0);
            x.due(1, "touches", k, 1);
            x.due(1, "touches", k, 2);
            x.due(0, "touches", k, 3);
        }
    }

    @Said(where = "Promise 23", words = TOUCHES)
    void touchesOnlyIfTheRestIsAlikeToo() {
        // about 0, (10 root 10 - 37) by 9 with r (44 - 8 root 10) by 9: r and 4 are (80 - 8 root 10) by 9, which squared is
        // 7040 - 1280 root 10 by 81; from 2, 3 it is 324 + 5096 - 1280 root 10 by 81, of which the root alone is alike
        x.due(0, "straight", 2, 8);
        x.due(1, "round", 1, -1, 1);
        x.due(2, "straight", 4, -8);
        x.due(3, "round", 2, 3, 4);
        x.part(0, 1, -37, 10, 10, 9);
        x.part(0, 2, 44, -8, 10, 9);
        x.due(0, "touches", 0, 3);
        x.due(0, "touches", 1, 3);
    }

    @Said(where = "Promise 23", words = TOUCHES)
    void touchesSlantedStraightsByTheirBits() {
        x.due(0, "round", 0, -1, 4);
        x.due(1, "round", -2, -1, 3);
        x.due(2, "straight", 5, -5);
        x.due(8, "answers", 0);
        for (int k = 0; k < 8; k++) {
            for (int i = 0; i < 3; i++) {
                x.due(1 + (k >> i & 1), "touches", k, i);
            }
        }
    }

    @Said(where = "Promise 23", words = TOUCHES)
    void touchesEachOfTheThreeByItsBit() {
        threeRounds(x);
        for (int k = 0; k < 8; k++) {
            for (int i = 0; i < 3; i++) {
                x.due(1 + (k >> i & 1), "touches", k, i);
            }
        }
    }

    @Said(where = "Promise 23", words = "BEYOND: no such SHAPE.")
    void touchesBeyond() {
        x.refused(BEYOND, "touches", 0, 0);
        threePoints(x);
        x.beyond(1, 0, 2, "touches", 0, 0);
        x.beyond(1, 0, 2, "touches", 99, 0);
        x.due(3, "straight", 0, 0);
        x.due(0, "touches", 0, 3);
        x.due(3, "drop");
        x.refused(BEYOND, "touches", 0, 3);
    }

    @Said(where = "Promise 23", words = "STATE, NONE likewise.")
    void touchesState() {
        x.due(0, "round", 3, 4, 0);
        x.refused(STATE, "touches", 0, 0);
        x.refused(STATE, "touches", -1, 0);
        x.due(0, "drop");
        threePoints(x);
        x.due(1, "three", 2, 1, 0);
        x.due(1, "touches", 0, 0);
        x.due(2, "drop");
        x.refused(STATE, "touches", 0, 0);
    }

    @Said(where = "Promise 23", words = "STATE, NONE likewise.")
    void touchesNone() {
        threeStraights(x);
        noneOutsideOfAnswers(4, "touches", 0, 2);
        x.due(2, "touches", 3, 2);
    }

    @Said(where = "Promise 23", words = "STATE, NONE likewise.")
    void touchesNoneWhereThereIsNoAnswer() {
        noAnswers();
        x.refused(NONE, "touches", 0, 0);
    }
}
