/** Boundary cases that the third of "Terms" names: SHEETS, LOWEST, SPOTS, DRAWS, THE PILE. */
final class BoundaryStores extends Boundary {
    @Said(where = "Terms", words = "SHEETS 0 to 3:")
    void fourSheets() {
        for (int s = 0; s <= 3; s++) {
            x.due(s + 1, "sheet", s, 2, s + 1);
            x.due(1, "write", s, s, 100 + s);
        }
        x.beyond(0, 0, 3, "sheet", 0, 2, 1);
        for (int s = 0; s <= 3; s++) {
            x.due(100 + s, "item", s, s);
            x.refused(BEYOND, "item", s, s + 1);
        }
    }

    @Said(where = "Terms", words = " rows of bytes (sort 0), ints (1), longs (2),")
    void utmostNumbersOfTheSorts() {
        long[] least = {Byte.MIN_VALUE, LEAST_INT, LEAST};
        long[] most = {Byte.MAX_VALUE, MOST_INT, MOST};
        for (int sort = 0; sort <= 2; sort++) {
            x.due(4, "sheet", 0, sort, 4);
            // one more than the most is the least, one less than the least the most
            x.writeForm(0, least[sort], most[sort], most[sort] + 1, least[sort] - 1);
            x.items(0, least[sort], most[sort], least[sort], most[sort]);
        }
    }

    @Said(where = "Terms", words = " at most 40 numbers,")
    void atMost40Numbers() {
        for (int sort = 0; sort <= 2; sort++) {
            x.due(40, "sheet", sort, sort, 40);
            x.due(1, "write", sort, 39, 7);
            x.due(7, "item", sort, 39);
            x.refused(BEYOND, "item", sort, 40);
            x.refused(BEYOND, "sheet", sort, sort, 41);
            x.due(7, "item", sort, 39);
        }
    }

    @Said(where = "Terms", words = " or MISSING (at first).")
    void sheetsAreMissingAtFirst() {
        x.due(0, "round", 0, 0, 1);
        for (int s = 0; s <= 3; s++) {
            x.refused(MISSING, "item", s, 0);
            x.refused(MISSING, "write", s, 0, 0);
            x.refused(MISSING, "lays", s, 0);
            x.refused(MISSING, "invert", s, 0, 0, 1);
            x.refused(MISSING, "tell", s);
            x.refused(MISSING, "copy", s, 0, s, 0, 0);
        }
        // a row of no numbers isn't MISSING
        x.due(0, "sheet", 0, 0, 0);
        x.refused(BEYOND, "item", 0, 0);
        x.refused(SIZE, "tell", 0);
        x.due(0, "copy", 0, 0, 0, 0, 0);
    }

    @Said(where = "Terms", words = "FORM of a SHEET: its first four numbers.")
    void formIsTheFirstFourNumbers() {
        x.due(3, "sheet", 0, 2, 3);
        x.refused(SIZE, "tell", 0);
        x.refused(SIZE, "invert", 0, 0, 0, 1);
        x.due(4, "sheet", 0, 2, 4);
        x.writeForm(0, 1, 0, 0, -4);
        x.due(1, "tell", 0);
        x.due(1, "invert", 0, 0, 0, 1);
        x.items(0, 4, 0, 0, -1);
        // a fifth number neither counts nor changes
        x.due(5, "sheet", 0, 2, 5);
        x.due(1, "write", 0, 4, 9);
        x.due(0, "tell", 0);
        x.refused(STATE, "invert", 0, 0, 0, 1);
        x.writeForm(0, 3, 0, 0, 6);
        x.due(1, "invert", 0, 0, 0, 1);
        x.items(0, 2, 0, 0, 1, 9);
    }

    @Said(where = "Terms", words = "LOWEST: divided by their greatest common divisor, the first that isn't 0 being above 0.")
    void lowestOfForms() {
        // with u 0, v 0, k 1 a FORM is read backwards but for B and C
        x.due(4, "sheet", 0, 2, 4);
        long[][] rows = {
            {6, 10, 15, 30, 30, 10, 15, 6}, {4, 6, 8, 2, 1, 3, 4, 2}, {4, 6, 8, -2, 1, -3, -4, -2},
            {4, -6, 8, 0, 0, 3, -4, -2}, {4, 0, -8, 0, 0, 0, 2, -1}, {-7, 0, 0, 0, 0, 0, 0, 1},
            {LEAST / 2, LEAST, LEAST, LEAST / 2, 1, 2, 2, 1}, {0, LEAST, LEAST, 0, 0, 1, 1, 0},
        };
        for (long[] row : rows) {
            x.writeForm(0, row[0], row[1], row[2], row[3]);
            x.due(1, "invert", 0, 0, 0, 1);
            x.items(0, row[4], row[5], row[6], row[7]);
        }
    }

    @Said(where = "Terms", words = "LOWEST: divided by their greatest common divisor, the first that isn't 0 being above 0.")
    void lowestOfLinesOfLikePowers() {
        x.due(0, "round", 5, 5, 0);
        x.due(1, "round", -5, -5, 0);
        // 20 x + 20 y = 0
        x.due(1, "radical", 0, 1, 0);
        x.due(1, "radical", 0, 1, 1);
        x.due(0, "radical", 0, 1, 2);
        x.due(1, "radical", 1, 0, 0);
        // -20 y = 25
        x.due(-5, "change", 1, 1, 5);
        x.due(0, "change", 0, 3, 5);
        x.due(0, "radical", 0, 1, 0);
        x.due(4, "radical", 0, 1, 1);
        x.due(-5, "radical", 0, 1, 2);
        x.due(4, "radical", 1, 0, 1);
        x.due(-5, "radical", 1, 0, 2);
    }

    @Said(where = "Terms", words = "SPOTS 0 to 5 hold nothing (at first), or a NUMBER")
    void sixSpotsThatHoldNothingAtFirst() {
        x.due(0, "count", 5);
        for (int spot = 0; spot <= 5; spot++) {
            x.refused(MISSING, "number", spot, 0);
            x.refused(MISSING, "taken", spot, 0);
            x.due(0, "clear", spot);
            x.due(1, "ratio", spot, spot, 1);
        }
        x.due(6, "count", 5);
        x.beyond(0, 0, 5, "ratio", 0, 1, 1);
        x.beyond(0, 0, 5, "number", 0, 0);
        for (int spot = 0; spot <= 5; spot++) {
            x.spot(spot, spot, 0, 0, 1);
        }
    }

    @Said(where = "Terms", words = ", of KINDS: 0 NUMBER; 1 ROOT (q isn't 0), 2 RATIO (q is 0) under NUMBER; 3 WHOLE under "
        + "RATIO (m is 1, too).")
    void kindsOfNumbers() {
        x.hold(0, 0, 1, 3, 1);
        x.hold(1, 5, 1, 3, 7);
        x.hold(2, 5, 0, 0, 7);
        x.hold(3, 5, 0, 0, 1);
        int[][] due = {{1, 3, 0, 0}, {1, 3, 0, 0}, {1, 0, 7, 0}, {1, 0, 1, 5}};
        for (int spot = 0; spot < 4; spot++) {
            for (int kind = 0; kind < 4; kind++) {
                if (due[spot][kind] == 0) {
                    x.refused(KIND, "taken", spot, kind);
                } else {
                    x.due(due[spot][kind], "taken", spot, kind);
                }
            }
        }
    }

    @Said(where = "Terms", words = "DRAWS: z is told (1 at first); a draw makes it z * 1103515245 + 12345 (an int), and gives "
        + "z >>> 8.")
    void drawsGoRoundTheInts() {
        for (int i = 0; i < 6; i++) {
            x.due(i, "round", 0, 0, i);
        }
        x.due(1, "count", 4);
        // 1103527590, of which 4310654 is given
        x.due(14, "draw");
        x.due(1103527590, "count", 4);
        // -1103502900, which is 3191464396 without its sign's bit: 12466657 is given
        x.due(1103527590, "seed", -1);
        x.due(17, "draw");
        x.due(-1103502900, "count", 4);
        // 0: 12345, of which 48 is given
        x.due(-1103502900, "seed", 0);
        x.due(8, "draw");
        x.due(12345, "count", 4);
        // the utmost ints: -1103515245 + 12345 + 2147483648 over the edge
        x.due(12345, "seed", MOST_INT);
        x.ask("draw");
        x.due(1043980748, "count", 4);
        x.due(1043980748, "seed", LEAST_INT);
        x.ask("draw");
        x.due(-2147471303, "count", 4);
    }

    @Said(where = "Terms", words = "THE PILE has images (none at first, at most 8).")
    void atMostEightImages() {
        x.due(0, "count", 3);
        x.refused(NONE, "back");
        for (int n = 1; n <= 8; n++) {
            x.due(n, "image");
            x.due(n, "count", 3);
        }
        x.refused(FULL, "image");
        x.due(8, "count", 3);
        for (int n = 7; n >= 0; n--) {
            x.due(0, "back");
            x.due(n, "count", 3);
        }
        x.refused(NONE, "back");
    }
}
