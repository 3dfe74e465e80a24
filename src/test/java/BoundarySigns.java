/** Boundary cases that the second of "Terms" names: SIGNS, LOOSE ones, ANSWERS, NUMBERS. */
final class BoundarySigns extends Boundary {
    private static final int[][] ORDERS = {{0, 1, 2}, {0, 2, 1}, {1, 0, 2}, {2, 0, 1}, {1, 2, 0}, {2, 1, 0}};

    @Said(where = "Terms", words = "SIGNS: a set of bits 0, 1, 2, one for each of THE THREE in their order.")
    void bitsStandInTheOrderOfTheThree() {
        // one circle touches x = 0 from its left in 0, 0, and goes through both POINTS: -1, 0 with r 1
        x.due(0, "straight", 0, 0);
        x.due(1, "round", -1, 1, 0);
        x.due(2, "round", -1, -1, 0);
        int[] signs = {1, 1, 2, 2, 4, 4};
        for (int n = 0; n < 6; n++) {
            x.due(1, "three", ORDERS[n][0], ORDERS[n][1], ORDERS[n][2]);
            x.due(1, "answers", 0);
            x.due(signs[n], "signs", 0);
            x.due(1 << signs[n], "answers", 2);
            x.due(-1, "answer", 0, 0, 0);
        }
    }

    @Said(where = "Terms", words = "A circle (centre x, y, radius r above 0)")
    void noCircleHasRadiusZero() {
        // three STRAIGHTS through one point; then two and a POINT where they cross
        x.due(0, "straight", 0, 0);
        x.due(1, "straight", 1, 0);
        x.due(2, "straight", 2, 0);
        for (int what = 0; what < 3; what++) {
            x.due(0, "answers", what);
        }
        x.due(3, "round", 0, 0, 0);
        x.due(1, "three", 0, 1, 3);
        for (int what = 0; what < 3; what++) {
            x.due(0, "answers", what);
        }
    }

    @Said(where = "Terms", words = "A circle (centre x, y, radius r above 0)")
    void noCircleHasRadiusBelowZero() {
        // between two STRAIGHTS on y = 0: by SIGNS 2 and 6 r is 1, by SIGNS 1 and 5 it would be -1
        x.due(0, "straight", 0, 0);
        x.due(1, "straight", 0, 2);
        x.due(2, "straight", 1, 0);
        x.due(2, "answers", 0);
        x.circle(0, 1, 1, 1);
        x.circle(1, 1, -1, 1);
        x.due(2, "signs", 0);
        x.due(6, "signs", 1);
        x.refused(NONE, "signs", 2);
    }

    @Said(where = "Terms", words = "A circle (centre x, y, radius r above 0)")
    void radiusIsAboveZeroByItsRoot() {
        // by SIGNS 0 r is (8 root 15 less 29) by 2, some 0.99; the other place where the equations hold has r below 0
        x.due(0, "round", 0, -1, 4);
        x.due(1, "round", -2, -1, 3);
        x.due(2, "straight", 5, -5);
        x.due(8, "answers", 0);
        x.due(255, "answers", 2);
        x.part(0, 2, -29, 8, 15, 2);
        x.part(7, 2, 29, 8, 15, 2);
        // two by SIGNS 2, 4, 6, 7 each; by 5, 3, 1, 0 both would be below 0
        Run y = new Run();
        y.due(0, "straight", 5, -8);
        y.due(1, "straight", 0, 1);
        y.due(2, "round", 0, -1, 3);
        y.due(8, "answers", 0);
        y.due(0b11010100, "answers", 2);
        y.part(4, 2, 19, -4, 13, 9);
        y.part(6, 2, 21, -12, 2, 1);
    }

    @Said(where = "Terms", words = " TOUCHES a ROUND with that bit 0 if the square of how far the centres are apart is the "
        + "square of r less RADIUS, with bit 1 if that of r and RADIUS;")
    void touchingInsideAndOutside() {
        // ANSWER 1 is the circle about 1, 1 with r 1
        threeStraights(x);
        x.due(3, "round", 3, 1, 1);
        x.due(2, "touches", 1, 3);
        x.due(3, "change", 3, 1, 2);
        x.due(0, "touches", 1, 3);
        x.due(1, "change", 3, 3, 2);
        x.due(1, "touches", 1, 3);
        x.due(2, "change", 3, 1, 1);
        x.due(0, "touches", 1, 3);
        // the same circle: nothing apart, and r is RADIUS
        x.due(2, "change", 3, 3, 1);
        x.due(1, "touches", 1, 3);
        // a ROUND within ANSWER 2, the circle about -2, 2 with r 2; then the other way round
        x.due(1, "change", 3, 1, -1);
        x.due(1, "change", 3, 2, 2);
        x.due(1, "touches", 2, 3);
        x.due(1, "change", 3, 3, 3);
        x.due(1, "touches", 2, 3);
        x.due(3, "change", 3, 3, 2);
        x.due(0, "touches", 2, 3);
    }

    @Said(where = "Terms", words = " a POINT only with bit 0;")
    void pointsAreTouchedWithBitZeroOnly() {
        // ANSWER 1 is the circle about 1, 1 with r 1
        threeStraights(x);
        x.due(3, "round", 2, 1, 0);
        x.due(1, "touches", 1, 3);
        x.due(2, "change", 3, 1, 1);
        x.due(0, "touches", 1, 3);
        // through the POINT 1, 1 in the corner: 2 -+ root 2, both by SIGNS 0
        x.due(1, "three", 0, 1, 3);
        x.due(2, "answers", 0);
        x.due(1, "answers", 2);
    }

    @Said(where = "Terms", words = " a STRAIGHT with bit 0 if a x + b y less c is l times r, with bit 1 if it is -l times r.")
    void straightsAreTouchedOnEitherSide() {
        // the circle about 0, 0 with r 5 and the STRAIGHTS that touch it, and those next to them
        threePoints(x);
        x.due(3, "straight", 0, 0);
        for (int slant = 0; slant <= 5; slant++) {
            x.ask("change", 3, 4, slant);
            int touching = slant <= 1 ? 5 : 25;
            for (int off = -1; off <= 1; off++) {
                x.ask("change", 3, 5, -touching + off);
                x.due(off == 0 ? 1 : 0, "touches", 0, 3);
                x.ask("change", 3, 5, touching + off);
                x.due(off == 0 ? 2 : 0, "touches", 0, 3);
            }
        }
    }

    @Said(where = "Terms", words = "SIGNS in which a bit of a POINT is 1 don't count.")
    void bitsOfPointsDoNotCount() {
        threePoints(x);
        x.due(1, "answers", 0);
        x.due(0, "answers", 1);
        x.due(1, "answers", 2);
        // in a row, so that all SIGNS that count are LOOSE
        x.due(0, "change", 2, 2, 4);
        x.due(1, "answers", 1);
        // one POINT and one ROUND twice: its bits alike, SIGNS 0 and 6
        x.due(0, "change", 1, 3, 2);
        x.due(5, "change", 2, 1, -3);
        x.due(0, "change", 2, 3, 2);
        x.due(0b1000001, "answers", 1);
        x.due(1, "three", 1, 0, 2);
        x.due(0b100001, "answers", 1);
        x.due(1, "three", 1, 2, 0);
        x.due(0b1001, "answers", 1);
    }

    @Said(where = "Terms", words = "STRAIGHTS' equations are of the first degree in x, y, r; so are those of ROUNDS, less that of "
        + "the first ROUND of THE THREE (which stays as it is).")
    void whicheverRoundStaysAnswersAreTheSame() {
        threeRounds(x);
        for (int[] order : ORDERS) {
            x.due(1, "three", order[0], order[1], order[2]);
            x.due(8, "answers", 0);
            x.due(0, "answers", 1);
            for (int k = 0; k < 8; k++) {
                for (int n = 0; n < 3; n++) {
                    x.due(1 + (k >> n & 1), "touches", k, order[n]);
                }
            }
        }
    }

    private static final String LOOSE = "SIGNS are LOOSE, if these equations of the first degree (two, or, of three STRAIGHTS, "
        + "three) aren't independent (in what stands ahead of x, y, r), or if all x, y, r for which these hold do for the "
        + "one that stays, too.";

    @Said(where = "Terms", words = LOOSE)
    void straightsSideBySideAreLooseWithLikeBits() {
        // SHAPES 0 and 2 have no point in common, so that their equations contradict each other: LOOSE all the same
        x.due(0, "straight", 3, 0);
        x.due(1, "straight", 1, 0);
        x.due(2, "straight", 3, 10);
        x.due(0b10100101, "answers", 1);
        x.due(0b01010000, "answers", 2);
        x.part(0, 0, 1, 0, 0, 2);
        x.part(1, 0, 2, 0, 0, 1);
        // one and the same line: with unlike bits r would be 0, but SIGNS are not LOOSE
        x.due(10, "change", 2, 5, 0);
        x.due(0b10100101, "answers", 1);
        x.due(0, "answers", 0);
    }

    @Said(where = "Terms", words = LOOSE)
    void straightsSideBySideAndARoundAreLooseWithLikeBits() {
        x.due(0, "round", 1, 0, 1);
        x.due(1, "straight", 0, 0);
        x.due(2, "straight", 0, 2);
        x.due(0b11000011, "answers", 1);
        x.due(1, "three", 1, 0, 2);
        x.due(0b10100101, "answers", 1);
        x.due(1, "three", 1, 2, 0);
        x.due(0b10011001, "answers", 1);
        x.due(3, "answers", 0);
    }

    @Said(where = "Terms", words = LOOSE)
    void roundsAlikeAreLooseWithLikeBits() {
        x.due(0, "round", 0, 0, 2);
        x.due(1, "round", 0, 0, 2);
        x.due(2, "straight", 0, -3);
        x.due(0b10011001, "answers", 1);
        x.due(0, "answers", 0);
        // one centre, but unlike RADIUS: r is 2 or 1, none LOOSE
        x.due(2, "change", 0, 3, 1);
        x.due(2, "change", 1, 3, 3);
        x.due(0, "answers", 1);
        x.due(2, "answers", 0);
        x.circle(0, -1, 0, 2);
        x.circle(1, -2, 0, 1);
    }

    @Said(where = "Terms", words = LOOSE)
    void roundsInARowAreLooseByTheirRadius() {
        x.due(0, "round", 0, 0, 1);
        x.due(1, "round", 2, 0, 2);
        x.due(2, "round", 4, 0, 3);
        // 1, 2, 3 rise evenly: with all bits alike
        x.due(0b10000001, "answers", 1);
        // 1, 2, 4 don't; -1, 2, 5 do, so that the first bit is unlike both others
        x.due(3, "change", 2, 3, 4);
        x.due(0, "answers", 1);
        x.due(4, "change", 2, 3, 5);
        x.due(0b01000010, "answers", 1);
        // POINTS in a row, and just out of it
        x.due(1, "change", 0, 3, 0);
        x.due(2, "change", 1, 3, 0);
        x.due(5, "change", 2, 3, 0);
        x.due(1, "answers", 1);
        x.due(0, "change", 2, 2, 1);
        x.due(0, "answers", 1);
        x.due(1, "answers", 0);
    }

    @Said(where = "Terms", words = LOOSE)
    void allThatTouchInOnePointAreLoose() {
        // all circles about r, 0 touch these in 0, 0: what holds for two of the equations holds for the one that stays
        x.due(0, "round", 1, 0, 1);
        x.due(1, "round", 2, 0, 2);
        x.due(2, "straight", 0, 0);
        x.due(0b10000001, "answers", 1);
        x.due(0, "answers", 2);
        // moved on: no circle is left, as the equations contradict each other; they still aren't independent
        x.due(0, "change", 2, 5, 1);
        x.due(0b10000001, "answers", 1);
    }

    @Said(where = "Terms", words = LOOSE)
    void whatMeetsTheOneThatStaysOnceOrNeverIsNotLoose() {
        // with both ROUNDS inside: y = 0, x = r - 2, and 4 - 4 r + 1 = 1 - 2 r: once
        x.due(0, "round", 0, 1, 1);
        x.due(1, "round", 0, -1, 1);
        x.due(2, "straight", 0, -2);
        x.due(0, "answers", 1);
        x.due(0, "signs", 0);
        x.circle(0, 0, 0, 2);
        // x = r - 1, and (r - 1)(r - 1) + 1 = (r - 1)(r - 1): never
        x.due(-2, "change", 2, 5, -1);
        x.due(0, "answers", 1);
        x.due(0b1110, "answers", 2);
        x.circle(0, 0, -1, 1);
        x.circle(1, 0, 1, 1);
        x.part(2, 0, -3, 0, 0, 4);
        x.part(2, 2, 1, 0, 0, 4);
        for (int[] order : ORDERS) {
            x.due(1, "three", order[0], order[1], order[2]);
            x.due(3, "answers", 0);
            x.due(0, "answers", 1);
        }
    }

    @Said(where = "Terms", words = LOOSE)
    void whatNeverMeetsTheOneThatStaysOnEitherSide() {
        // the same on the other side: x = 1 - r, in each direction of the line in which both equations hold
        x.due(0, "round", 0, 1, 1);
        x.due(1, "round", 0, -1, 1);
        x.due(2, "straight", 0, 1);
        for (int[] order : ORDERS) {
            x.due(1, "three", order[0], order[1], order[2]);
            x.due(3, "answers", 0);
            x.due(0, "answers", 1);
            x.due(0, "rank", 2);
            x.due(1, "answer", 2, 2, 0);
            x.due(4, "answer", 2, 2, 3);
        }
    }

    private static final String ALL = "ANSWERS: all circles that TOUCH each of THE THREE with its bit, by all SIGNS that count "
        + "and are not LOOSE;";

    @Said(where = "Terms", words = ALL)
    void fromNoAnswerToEight() {
        threeRounds(x);
        x.due(8, "answers", 0);
        x.due(255, "answers", 2);
        // one within the other, and one outside of both: none touches all
        x.due(1, "change", 0, 3, 5);
        x.due(5, "change", 1, 1, 0);
        x.due(2, "change", 1, 3, 1);
        x.due(1, "change", 2, 3, 0);
        x.due(1, "change", 2, 1, 5);
        x.due(0, "answers", 0);
        x.due(0, "answers", 1);
        x.due(0, "answers", 2);
    }

    @Said(where = "Terms", words = ALL)
    void aCircleThatIsFoundTwiceCountsOnce() {
        // a POINT on one of two STRAIGHTS: (r - 3)(r - 3) is 0
        x.due(0, "straight", 0, 0);
        x.due(1, "straight", 1, 0);
        x.due(2, "round", 0, 3, 0);
        x.due(2, "answers", 0);
        x.circle(0, 3, 3, 3);
        x.circle(1, -3, 3, 3);
        x.due(0, "signs", 0);
        x.due(1, "signs", 1);
    }

    @Said(where = "Terms", words = ALL)
    void noAnswerIsByLooseSigns() {
        // many circles by SIGNS 0 touch one line twice and go through the POINT: none is an ANSWER
        x.due(0, "straight", 0, 0);
        x.due(1, "straight", 0, 0);
        x.due(2, "round", 3, 0, 0);
        x.due(0b1001, "answers", 1);
        x.due(0, "answers", 0);
        x.due(0, "answers", 2);
    }

    @Said(where = "Terms", words = ALL)
    void answersOfStraightsThatAllLieOffZero() {
        // the triangle 1, 1; 5, 1; 1, 4
        x.due(0, "straight", 0, 1);
        x.due(1, "straight", 1, 1);
        x.due(2, "straight", 2, 19);
        for (int[] order : ORDERS) {
            x.due(1, "three", order[0], order[1], order[2]);
            x.due(4, "answers", 0);
            x.circle(0, 7, 7, 6);
            x.due(2, "answer", (int) x.ask("best", 1), 0, 0);
            x.due(2, "answer", (int) x.ask("best", 1), 1, 0);
            x.due(1, "answer", (int) x.ask("best", 1), 2, 0);
        }
    }

    @Said(where = "Terms", words = ALL)
    void answersOfStraightsBehindThoseOfRounds() {
        threeRounds(x);
        x.due(3, "straight", 0, 0);
        x.due(4, "straight", 1, 0);
        x.due(5, "straight", 2, 12);
        x.due(8, "answers", 0);
        x.due(1, "three", 3, 4, 5);
        x.due(4, "answers", 0);
        x.circle(0, 6, 6, 6);
        x.circle(1, 1, 1, 1);
        x.due(1, "three", 2, 1, 0);
        x.due(8, "answers", 0);
        // a line as steep as the cone behind one that isn't
        x.due(6, "prune", 0);
        x.due(0, "round", 0, 1, 1);
        x.due(1, "round", 0, -1, 1);
        x.due(2, "straight", 0, -2);
        x.due(1, "three", 1, 2, 0);
        x.circle(0, 0, 0, 2);
        x.due(0, "signs", 0);
        x.due(1, "three", 0, 1, 2);
        x.circle(0, 0, 0, 2);
    }

    private static final String NUMBERED = " numbered by SIGNS (as numbers), of like ones the lesser r first, of like r the "
        + "lesser x, then the lesser y.";

    @Said(where = "Terms", words = NUMBERED)
    void numberedBySigns() {
        threeRounds(x);
        for (int k = 0; k < 8; k++) {
            x.due(k, "signs", k);
        }
        // whatever r is
        x.due(7, "rank", 1);
        x.due(0, "rank", 7);
    }

    @Said(where = "Terms", words = NUMBERED)
    void ofLikeSignsTheLesserRadiusFirst() {
        x.due(0, "straight", 0, 0);
        x.due(1, "straight", 1, 0);
        x.due(2, "round", 1, 2, 0);
        for (int[] order : ORDERS) {
            x.due(1, "three", order[0], order[1], order[2]);
            x.circle(0, 1, 1, 1);
            x.circle(1, 5, 5, 5);
        }
        // below 0 the lesser r has the greater x and y
        Run y = new Run();
        y.due(0, "straight", 0, 0);
        y.due(1, "straight", 1, 0);
        y.due(2, "round", -1, -2, 0);
        for (int[] order : ORDERS) {
            y.due(1, "three", order[0], order[1], order[2]);
            y.circle(0, -1, -1, 1);
            y.circle(1, -5, -5, 5);
        }
    }

    @Said(where = "Terms", words = NUMBERED)
    void ofLikeRadiusTheLesserX() {
        x.due(0, "straight", 1, 0);
        x.due(1, "straight", 1, 2);
        x.due(2, "round", 0, 1, 1);
        for (int[] order : ORDERS) {
            x.due(1, "three", order[0], order[1], order[2]);
            x.due(3, "answers", 0);
            x.circle(1, -2, 1, 1);
            x.circle(2, 2, 1, 1);
        }
    }

    @Said(where = "Terms", words = NUMBERED)
    void ofLikeRadiusAndXTheLesserY() {
        x.due(0, "straight", 0, 0);
        x.due(1, "straight", 0, 2);
        x.due(2, "round", 1, 0, 1);
        for (int[] order : ORDERS) {
            x.due(1, "three", order[0], order[1], order[2]);
            x.due(3, "answers", 0);
            x.circle(1, 1, -2, 1);
            x.circle(2, 1, 2, 1);
        }
    }

    @Said(where = "Terms", words = "NUMBERS are told as (p + q times the root of d) by m: m is above 0;")
    void mIsAboveZero() {
        x.due(1, "ratio", 0, 1, -2);
        x.spot(0, -1, 0, 0, 2);
        x.due(1, "ratio", 0, -3, -1);
        x.spot(0, 3, 0, 0, 1);
        x.due(1, "ratio", 0, 0, -5);
        x.spot(0, 0, 0, 0, 1);
        // 1 by (1 - root 2): by -1
        x.hold(1, 1, -1, 2, 1);
        x.due(1, "ratio", 0, 1, 1);
        x.due(1, "work", 2, 0, 1, 3);
        x.spot(2, -1, -1, 2, 1);
    }

    @Said(where = "Terms", words = "NUMBERS are told as (p + q times the root of d) by m: m is above 0;")
    void mOfAnswersIsAboveZero() {
        // 1 by 2 is worked as -1 by -2 or 1 by 2, by the order of the three
        x.due(0, "round", 0, 0, 0);
        x.due(1, "round", 1, 0, 0);
        x.due(2, "round", 0, 3, 0);
        for (int[] order : ORDERS) {
            x.due(1, "three", order[0], order[1], order[2]);
            x.part(0, 0, 1, 0, 0, 2);
            x.part(0, 1, 3, 0, 0, 2);
            x.part(0, 2, 0, 1, 10, 2);
        }
    }

    @Said(where = "Terms", words = " p, q, m have no common divisor;")
    void noCommonDivisorOfAllThree() {
        // (1 + root 2) by 2, twice: 2 + 2 root 2 by 2
        x.hold(0, 1, 1, 2, 2);
        x.due(1, "ratio", 1, 2, 1);
        x.due(1, "work", 2, 0, 1, 2);
        x.spot(2, 1, 1, 2, 1);
        // two of them may have one
        x.hold(0, 2, 1, 2, 2);
        x.hold(0, 1, 2, 2, 2);
        x.hold(0, 2, 2, 2, 3);
        x.due(1, "ratio", 0, 1000000, 999999);
        x.spot(0, 1000000, 0, 0, 999999);
        x.due(1, "ratio", 0, 1000000, 1000000);
        x.spot(0, 1, 0, 0, 1);
        x.due(1, "ratio", 0, 0, 1000000);
        x.spot(0, 0, 0, 0, 1);
    }

    @Said(where = "Terms", words = " d is above 1 and divided by no square but 1,")
    void noSquareDividesD() {
        int[][] roots = {{2, 1, 2}, {3, 1, 3}, {8, 2, 2}, {12, 2, 3}, {18, 3, 2}, {27, 3, 3}, {32, 4, 2}, {72, 6, 2},
            {999000, 30, 1110}, {999999, 3, 111111}, {999983, 1, 999983}, {999698, 707, 2}, {970299, 297, 11}};
        for (int[] root : roots) {
            x.due(1, "root", 0, root[0]);
            x.spot(0, 0, root[1], root[2], 1);
        }
        // through 1, 1 in the corner: r is 2 -+ root 2, as root 8 by 2
        x.due(0, "straight", 0, 0);
        x.due(1, "straight", 1, 0);
        x.due(2, "round", 1, 1, 0);
        x.part(0, 2, 2, -1, 2, 1);
        x.part(1, 2, 2, 1, 2, 1);
    }

    @Said(where = "Terms", words = " or, if q is 0, d is 0.")
    void dIsZeroWhereQIs() {
        int[][] squares = {{0, 0}, {1, 1}, {4, 2}, {9, 3}, {998001, 999}, {1000000, 1000}};
        for (int[] square : squares) {
            x.due(1, "root", 0, square[0]);
            x.spot(0, square[1], 0, 0, 1);
        }
        x.due(1, "root", 0, 2);
        x.due(1, "work", 1, 0, 0, 1);
        x.spot(1, 0, 0, 0, 1);
        x.due(1, "work", 1, 0, 0, 2);
        x.spot(1, 2, 0, 0, 1);
        x.due(1, "work", 1, 0, 0, 3);
        x.spot(1, 1, 0, 0, 1);
        // an ANSWER of which r is a ROOT, but neither x nor y
        x.due(0, "round", 3, 4, 0);
        x.due(1, "round", -3, 4, 0);
        x.due(2, "round", 4, 0, 0);
        x.part(0, 0, 0, 0, 0, 1);
        x.part(0, 1, 9, 0, 0, 8);
        x.part(0, 2, 0, 1, 1105, 8);
    }
}
