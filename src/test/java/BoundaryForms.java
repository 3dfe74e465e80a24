/** Boundary cases of promises 24 to 26: forms in rows. */
final class BoundaryForms extends Boundary {
    // ---- 24: lays

    @Said(where = "Promise 24", words = "FORM of a SHAPE comes to a SHEET, as many of its numbers as that has (their lowest bits): how "
        + "many.")
    void laysAsManyAsTheSheetHas() {
        x.due(0, "round", -5, 5, 0);
        x.due(1, "straight", 5, -30);
        long[][] forms = {{1, 10, -10, 50}, {0, 4, -3, 30}};
        for (int sort = 0; sort <= 2; sort++) {
            for (int size = 0; size <= 5; size++) {
                for (int i = 0; i < 2; i++) {
                    x.due(size, "sheet", 0, sort, size);
                    x.due(Math.min(size, 4), "lays", 0, i);
                    for (int n = 0; n < size; n++) {
                        x.due(n < 4 ? forms[i][n] : 0, "item", 0, n);
                    }
                }
            }
        }
    }

    @Said(where = "Promise 24", words = "FORM of a SHAPE comes to a SHEET, as many of its numbers as that has (their lowest bits): how "
        + "many.")
    void laysAheadOfWhatFollows() {
        x.due(0, "round", 5, -5, 5);
        x.due(40, "sheet", 3, 0, 40);
        for (int i = 0; i < 40; i++) {
            x.due(1, "write", 3, i, 99);
        }
        x.due(4, "lays", 3, 0);
        x.items(3, 1, -10, 10, 25, 99);
        x.due(99, "item", 3, 39);
    }

    @Said(where = "Promise 24", words = "BEYOND: no such SHEET, SHAPE.")
    void laysBeyond() {
        x.due(4, "sheet", 0, 2, 4);
        x.refused(BEYOND, "lays", 0, 0);
        x.due(0, "round", 0, 0, 1);
        x.due(1, "straight", 0, 0);
        x.beyond(0, 0, 3, "lays", 0, 0);
        x.beyond(1, 0, 1, "lays", 0, 0);
        x.due(1, "drop");
        x.refused(BEYOND, "lays", 0, 1);
        x.items(0, 0, 0, 0, 0);
    }

    @Said(where = "Promise 24", words = "MISSING.")
    void laysMissing() {
        x.due(0, "round", 0, 0, 1);
        for (int s = 0; s <= 3; s++) {
            x.refused(MISSING, "lays", s, 0);
        }
        x.due(4, "sheet", 0, 2, 4);
        x.due(4, "lays", 0, 0);
        x.due(0, "sheet", 0, -1, 4);
        x.refused(MISSING, "lays", 0, 0);
    }

    // ---- 25: invert

    private static final String INVERT = "FORM of a SHEET is turned inside out in the circle about u, v (-9 to 9) whose radius squared "
        + "is k (1 to 99): with E = B + 2 A u, F = C + 2 A v, G = A (u u + v v) + B u + C v + D it becomes G, k E - 2 G u, "
        + "k F - 2 G v, G (u u + v v) - k E u - k F v + k k A, LOWEST: 1.";

    @Said(where = "Promise 25", words = INVERT)
    void invertInTheUtmostCircles() {
        x.due(4, "sheet", 0, 1, 4);
        // G 161; k E 1782, k F -1782
        x.writeForm(0, 1, 0, 0, -1);
        x.due(1, "invert", 0, 9, -9, 99);
        x.items(0, 161, -1116, 1116, 3807);
        x.due(1, "invert", 0, 9, -9, 99);
        x.items(0, 1, 0, 0, -1);
        // G 161; k E -18, k F 18
        x.due(1, "invert", 0, -9, 9, 1);
        x.items(0, 161, 2880, -2880, 25759);
        x.due(1, "invert", 0, -9, 9, 1);
        x.items(0, 1, 0, 0, -1);
    }

    @Said(where = "Promise 25", words = INVERT)
    void invertPointsAndLines() {
        x.due(4, "sheet", 0, 2, 4);
        // a line through u, v stays: 3 x + 4 y = 25 about 3, 4
        x.writeForm(0, 0, 3, 4, -25);
        x.due(1, "invert", 0, 3, 4, 7);
        x.items(0, 0, 3, 4, -25);
        // a circle through u, v becomes a line, and back
        x.writeForm(0, 1, -2, 0, 0);
        x.due(1, "invert", 0, 0, 0, 4);
        x.items(0, 0, 1, 0, -2);
        x.due(1, "invert", 0, 0, 0, 4);
        x.items(0, 1, -2, 0, 0);
        // the circle itself stays; u, v as a point becomes a number alone
        x.writeForm(0, 1, -2, -2, -7);
        x.due(1, "invert", 0, 1, 1, 9);
        x.items(0, 1, -2, -2, -7);
        x.writeForm(0, 1, -2, -2, 2);
        x.due(1, "invert", 0, 1, 1, 9);
        x.items(0, 0, 0, 0, 1);
    }

    @Said(where = "Promise 25", words = INVERT)
    void invertOfEachSort() {
        for (int sort = 0; sort <= 2; sort++) {
            x.due(4, "sheet", sort, sort, 4);
            // G 5, k E 20, k F -5, k k A 25: 5, 10, 15, 20
            x.writeForm(sort, 1, 2, 3, 4);
            x.due(1, "invert", sort, 1, -2, 5);
            x.items(sort, 1, 2, 3, 4);
            // ahead of LOWEST a number of another sort is none too much: 99 times 99 times 64
            x.writeForm(sort, 64, 0, 0, 0);
            x.due(1, "invert", sort, 0, 0, 99);
            x.items(sort, 0, 0, 0, 1);
        }
    }

    @Said(where = "Promise 25", words = "BEYOND: no such SHEET, u, v, k.")
    void invertBeyond() {
        x.beyond(0, 0, 3, "invert", 0, 0, 0, 1);
        x.due(4, "sheet", 0, 2, 4);
        x.writeForm(0, 1, 0, 0, -1);
        x.beyond(0, 0, 3, "invert", 0, 0, 0, 1);
        x.beyond(1, -9, 9, "invert", 0, 0, 0, 1);
        x.beyond(2, -9, 9, "invert", 0, 0, 0, 1);
        x.beyond(3, 1, 99, "invert", 0, 0, 0, 1);
        x.items(0, 1, 0, 0, -1);
    }

    @Said(where = "Promise 25", words = "MISSING.")
    void invertMissing() {
        for (int s = 0; s <= 3; s++) {
            x.refused(MISSING, "invert", s, 9, 9, 99);
        }
        x.due(4, "sheet", 0, 2, 4);
        x.due(1, "write", 0, 0, 1);
        x.due(1, "invert", 0, 0, 0, 1);
        x.due(0, "sheet", 0, -1, 0);
        x.refused(MISSING, "invert", 0, 0, 0, 1);
    }

    @Said(where = "Promise 25", words = "SIZE: it has fewer than four numbers.")
    void invertSize() {
        for (int size = 0; size <= 5; size++) {
            x.due(size, "sheet", 0, 2, size);
            if (size > 0) {
                x.due(1, "write", 0, 0, 5);
            }
            if (size < 4) {
                x.refused(SIZE, "invert", 0, 0, 0, 1);
            } else {
                x.due(1, "invert", 0, 0, 0, 1);
                x.items(0, 0, 0, 0, 1);
            }
        }
    }

    @Said(where = "Promise 25", words = "STATE: all four are 0.")
    void invertState() {
        x.due(5, "sheet", 0, 2, 5);
        x.due(1, "write", 0, 4, 1);
        x.refused(STATE, "invert", 0, 0, 0, 1);
        // any one of the four that isn't 0 is enough
        long[][] turned = {{0, 0, 0, 1}, {0, 1, 0, 0}, {0, 0, 1, 0}, {1, 0, 0, 0}};
        for (int n = 0; n < 4; n++) {
            x.writeForm(0, 0, 0, 0, 0);
            x.refused(STATE, "invert", 0, 9, 9, 99);
            x.due(1, "write", 0, n, -6);
            x.due(1, "invert", 0, 0, 0, 1);
            x.items(0, turned[n]);
        }
    }

    private static final String OVER_WORDS = "OVER: one of the seven numbers that E, F, G and those four (ahead of LOWEST) are isn't a "
        + "long, or (worked from the left on) a product or sum on the way to it, or one of the last four (LOWEST) isn't a "
        + "number of that SHEET's sort.";

    private void over(long a, long b, long c, long d, int u, int v, int k) {
        x.writeForm(0, a, b, c, d);
        x.refused(OVER, "invert", 0, u, v, k);
        x.items(0, a, b, c, d);
    }

    private static final long HALF = 1L << 62;

    @Said(where = "Promise 25", words = OVER_WORDS)
    void invertOverOnTheWayToE() {
        x.due(4, "sheet", 0, 2, 4);
        // 2 A, above and below; 2 A u; B + 2 A u
        over(HALF, 0, 0, 0, 0, 0, 1);
        over(-HALF - 1, 0, 0, 0, 0, 0, 1);
        over(-HALF, -8, 0, 0, -1, 0, 1);
        over(-1, MOST, 0, MOST, -1, 0, 1);
        // -(2 to the 63) still is one
        x.writeForm(0, -HALF, 0, 0, 0);
        x.due(1, "invert", 0, 0, 0, 1);
        x.items(0, 0, 0, 0, 1);
    }

    @Said(where = "Promise 25", words = OVER_WORDS)
    void invertOverOnTheWayToF() {
        x.due(4, "sheet", 0, 2, 4);
        // 2 A v; C + 2 A v
        over(-HALF, 0, -5, 0, 0, -1, 1);
        over(-8, -15, MOST, MOST, -1, -1, 1);
        over(-1, 0, MOST, MOST, 0, -1, 1);
    }

    @Said(where = "Promise 25", words = OVER_WORDS)
    void invertOverOnTheWayToG() {
        x.due(4, "sheet", 0, 2, 4);
        // A (u u + v v); B u; C v; .. + C v, above and below; .. + D
        over(288230376151711745L, 15, -2305843009213693951L, 144115188075855871L, -4, 4, 1);
        over(-5, LEAST, -17, -4611686018427387905L, -1, 0, 1);
        over(-20, 0, LEAST, -4611686018427387905L, 0, -1, 1);
        over(-5, 17, MOST, MOST, 1, 1, 1);
        over(0, 2, MOST, LEAST, 1, 1, 1);
        over(0, MOST, -16, LEAST, -1, 3, 1);
        over(1152921504606846975L, -2280021633487534709L, -MOST, -MOST, 1, 1, 1);
    }

    @Said(where = "Promise 25", words = OVER_WORDS)
    void invertOverOnTheWayToTheSecond() {
        x.due(4, "sheet", 0, 2, 4);
        // k E and 2 G, above and below; 2 G u; k E - 2 G u, above and below
        over(0, HALF, 0, 0, 0, 0, 2);
        over(0, -HALF - 1, 0, 0, 0, 0, 2);
        over(0, 0, 0, HALF, 0, 0, 1);
        over(0, 0, 0, -HALF - 1, 0, 0, 2);
        over(0, HALF, 0, 0, -1, 0, 1);
        over(1, 0, 0, -HALF - 1, -1, 0, 2);
        over(0, 0, 0, -HALF, 1, 0, 1);
        over(-6, 0, 0, HALF + 1, 1, 0, 1);
        // 2 G may be -(2 to the 63)
        x.writeForm(0, 0, 0, 0, -HALF);
        x.due(1, "invert", 0, 0, 0, 2);
        x.items(0, 1, 0, 0, 0);
    }

    @Said(where = "Promise 25", words = OVER_WORDS)
    void invertOverOnTheWayToTheThird() {
        x.due(4, "sheet", 0, 2, 4);
        // k F, above and below; 2 G v; k F - 2 G v, above and below
        over(0, 0, HALF, 0, 0, 0, 2);
        over(0, 0, -HALF - 1, 0, 0, 0, 2);
        over(0, 0, HALF, 0, 0, -1, 1);
        over(1, 0, 0, -HALF - 1, 0, -1, 99);
        over(0, 0, 0, -HALF, 0, 1, 1);
        over(-5, 0, 0, HALF + 1, 0, 1, 1);
        x.writeForm(0, 0, 0, -HALF, 0);
        x.due(1, "invert", 0, 0, 0, 2);
        x.items(0, 0, 0, 1, 0);
    }

    @Said(where = "Promise 25", words = OVER_WORDS)
    void invertOverOnTheWayToTheLast() {
        x.due(4, "sheet", 0, 2, 4);
        // G (u u + v v), above and below; k E u; .. - k E u; k F v; .. - k F v; k k A; .. + k k A
        over(0, 0, 0, 1L << 57, 0, 8, 1);
        over(0, 0, 0, -(1L << 59) - 1, 0, 4, 1);
        over(0, 72057594037927935L, 0, 0, 4, 0, 54);
        over(0, 24557876212229306L, 35184372088831L, 288230376151711744L, -4, -1, 99);
        over(-9, 0, 0, HALF, 1, 1, 2);
        over(0, -13, 0, -144115188075855873L, -8, 0, 99);
        over(0, 6, 49003868822740844L, 4398046511105L, 0, 2, 99);
        over(7, 72057594037927935L, -18014398509481983L, 3, -1, 6, 89);
        over(0, 0, -10, HALF, -1, 1, 2);
        over(0, -2, -3, -HALF - 1, -1, -1, 2);
        over(1L << 59, 0, 0, 0, 0, 0, 4);
        over(-(1L << 61) - 1, 0, 0, 0, 0, 0, 2);
        over(6, 2199023255551L, -18, HALF, -1, 1, 2);
        over(-8, 35184372088832L, -7, -HALF - 1, 1, -1, 2);
    }

    @Said(where = "Promise 25", words = OVER_WORDS)
    void invertOverInLowest() {
        x.due(4, "sheet", 0, 2, 4);
        // -(2 to the 63) can't change its sign, neither as the second, nor the third, nor the last
        over(1, LEAST, 0, 0, 0, 0, 1);
        over(0, LEAST, 1, 0, 0, 0, 1);
        over(5, 0, LEAST, 0, 0, 0, 1);
        over(0, LEAST, LEAST + 1, 0, 0, 0, 1);
        over(-(1L << 61), 0, 0, -15, 0, 0, 2);
        // but where it needn't, or where a divisor is found, it is none too much
        x.writeForm(0, 0, 1, LEAST, 0);
        x.due(1, "invert", 0, 0, 0, 1);
        x.items(0, 0, 1, LEAST, 0);
        x.writeForm(0, 0, LEAST, 2, 0);
        x.due(1, "invert", 0, 0, 0, 1);
        x.items(0, 0, HALF, -1, 0);
    }

    @Said(where = "Promise 25", words = OVER_WORDS)
    void invertOverBytes() {
        x.due(4, "sheet", 0, 0, 4);
        // D, 2 B, 2 C, 4 A
        over(0, 64, 0, 1, 0, 0, 2);
        over(0, -65, 0, 1, 0, 0, 2);
        over(0, 0, 64, 1, 0, 0, 2);
        over(0, 0, -65, 1, 0, 0, 2);
        over(32, 0, 0, 1, 0, 0, 2);
        over(-33, 0, 0, 1, 0, 0, 2);
        over(0, 0, 1, -128, 0, 0, 1);
        x.writeForm(0, -32, -64, 63, 1);
        x.due(1, "invert", 0, 0, 0, 2);
        x.items(0, 1, -128, 126, -128);
        x.writeForm(0, 31, 63, -64, 127);
        x.due(1, "invert", 0, 0, 0, 2);
        x.items(0, 127, 126, -128, 124);
    }

    @Said(where = "Promise 25", words = OVER_WORDS)
    void invertOverInts() {
        x.due(4, "sheet", 0, 1, 4);
        int half = 1 << 30;
        int quarter = 1 << 29;
        over(0, half, 0, 1, 0, 0, 2);
        over(0, -half - 1, 0, 1, 0, 0, 2);
        over(0, 0, half, 1, 0, 0, 2);
        over(0, 0, -half - 1, 1, 0, 0, 2);
        over(quarter, 0, 0, 1, 0, 0, 2);
        over(-quarter - 1, 0, 0, 1, 0, 0, 2);
        over(0, 1, 0, LEAST_INT, 0, 0, 1);
        x.writeForm(0, -quarter, half - 1, -half, MOST_INT);
        x.due(1, "invert", 0, 0, 0, 2);
        x.items(0, MOST_INT, MOST_INT - 1, LEAST_INT, LEAST_INT);
    }

    // ---- 26: tell

    private static final String TELL = "What FORM of a SHEET is: 1 of a ROUND with RADIUS above 0 (any one), 3 of one point, 2 of a "
        + "straight line, 0 of nothing, or of all.";

    private void tells(int kind, long a, long b, long c, long d) {
        x.writeForm(0, a, b, c, d);
        x.due(kind, "tell", 0);
    }

    @Said(where = "Promise 26", words = TELL)
    void tellAroundOnePoint() {
        x.due(4, "sheet", 0, 2, 4);
        // B B + C C against 4 A D: 8, and D 1, 2, 3
        tells(1, 1, 2, 2, 1);
        tells(3, 1, 2, 2, 2);
        tells(0, 1, 2, 2, 3);
        tells(1, -1, 2, 2, -1);
        tells(3, -1, 2, 2, -2);
        tells(0, -1, 2, 2, -3);
        tells(3, 1, 0, 0, 0);
        tells(1, 1, 0, 0, -1);
        tells(0, 1, 0, 0, 1);
        tells(1, 1, 1, 0, 0);
        tells(1, -1, 0, 1, 0);
        // RADIUS needn't be whole: 9 against 8
        tells(1, 2, 3, 0, 1);
    }

    @Said(where = "Promise 26", words = TELL)
    void tellOfLinesNothingAndAll() {
        x.due(4, "sheet", 0, 2, 4);
        tells(0, 0, 0, 0, 0);
        tells(0, 0, 0, 0, 1);
        tells(0, 0, 0, 0, LEAST);
        tells(2, 0, 1, 0, 0);
        tells(2, 0, 0, -1, 0);
        tells(2, 0, LEAST, MOST, 7);
    }

    @Said(where = "Promise 26", words = TELL)
    void tellOfTheUtmostNumbers() {
        x.due(4, "sheet", 0, 2, 4);
        long half = LEAST / 2;
        // 2 to the 126 on both sides, or one of them next to it
        tells(3, half, LEAST, 0, half);
        tells(0, half, LEAST, 0, half - 1);
        tells(1, half, LEAST, 0, half + 1);
        tells(1, half, LEAST, 1, half);
        tells(0, half, LEAST + 1, 0, half);
        tells(0, MOST, MOST, MOST, MOST);
        tells(0, LEAST, LEAST, LEAST, LEAST);
        tells(1, LEAST, LEAST, LEAST, MOST);
        tells(1, MOST, LEAST, LEAST, LEAST);
        tells(3, 1L << 40, 0, 1L << 41, 1L << 40);
        tells(0, 1L << 40, 0, (1L << 41) - 1, 1L << 40);
    }

    @Said(where = "Promise 26", words = TELL)
    void tellOfEachSort() {
        for (int sort = 0; sort <= 1; sort++) {
            x.due(4, "sheet", 0, sort, 4);
            long least = sort == 0 ? Byte.MIN_VALUE : LEAST_INT;
            tells(3, least / 2, least, 0, least / 2);
            tells(0, least / 2, least, 0, least / 2 - 1);
            tells(1, least / 2, least, 0, least / 2 + 1);
            tells(2, 0, least, 0, least);
        }
    }

    @Said(where = "Promise 26", words = "BEYOND, MISSING, SIZE likewise.")
    void tellBeyond() {
        x.beyond(0, 0, 3, "tell", 0);
    }

    @Said(where = "Promise 26", words = "BEYOND, MISSING, SIZE likewise.")
    void tellMissing() {
        for (int s = 0; s <= 3; s++) {
            x.refused(MISSING, "tell", s);
        }
        x.due(4, "sheet", 3, 2, 4);
        x.due(0, "tell", 3);
        x.due(0, "sheet", 3, -1, 4);
        x.refused(MISSING, "tell", 3);
    }

    @Said(where = "Promise 26", words = "BEYOND, MISSING, SIZE likewise.")
    void tellSize() {
        for (int size = 0; size <= 5; size++) {
            x.due(size, "sheet", 1, 0, size);
            if (size > 1) {
                x.due(1, "write", 1, 1, 1);
            }
            if (size < 4) {
                x.refused(SIZE, "tell", 1);
            } else {
                x.due(2, "tell", 1);
            }
        }
    }
}
