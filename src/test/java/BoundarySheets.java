/** Boundary cases of promises 35 to 38: sheets. */
final class BoundarySheets extends Boundary {
    // ---- 35: sheet

    private static final String SHEET = "A SHEET becomes a row of n numbers of a sort, all 0, or MISSING (sort -1; n doesn't count): n (0).";

    @Said(where = "Promise 35", words = SHEET)
    void sheetFromNoneTo40() {
        for (int sort = 0; sort <= 2; sort++) {
            x.due(0, "sheet", 3, sort, 0);
            x.refused(BEYOND, "item", 3, 0);
            x.due(1, "sheet", 3, sort, 1);
            x.items(3, 0);
            x.refused(BEYOND, "item", 3, 1);
            x.due(40, "sheet", 3, sort, 40);
            x.due(0, "item", 3, 39);
            x.refused(BEYOND, "item", 3, 40);
        }
    }

    @Said(where = "Promise 35", words = SHEET)
    void sheetAnewIsAllZero() {
        x.due(40, "sheet", 0, 2, 40);
        for (int i = 0; i < 40; i++) {
            x.due(1, "write", 0, i, LEAST + i);
        }
        // shorter, longer again, of another sort
        x.due(2, "sheet", 0, 2, 2);
        x.items(0, 0, 0);
        x.due(40, "sheet", 0, 0, 40);
        for (int i = 0; i < 40; i++) {
            x.due(0, "item", 0, i);
        }
        x.due(1, "write", 0, 39, 300);
        x.due(44, "item", 0, 39);
        x.due(40, "sheet", 0, 0, 40);
        x.due(0, "item", 0, 39);
    }

    @Said(where = "Promise 35", words = SHEET)
    void sheetMissingWhateverN() {
        long[] any = {0, -1, 5, 41, LEAST_INT, MOST_INT};
        for (long n : any) {
            x.due(3, "sheet", 1, 1, 3);
            x.due(0, "sheet", 1, -1, n);
            x.refused(MISSING, "item", 1, 0);
            x.due(0, "sheet", 1, -1, n);
        }
        // what was written ahead of it is gone
        x.due(3, "sheet", 1, 1, 3);
        x.due(1, "write", 1, 2, 9);
        x.due(0, "sheet", 1, -1, 3);
        x.due(3, "sheet", 1, 1, 3);
        x.items(1, 0, 0, 0);
    }

    @Said(where = "Promise 35", words = "BEYOND: no such SHEET, sort.")
    void sheetBeyondSheetAndSort() {
        x.beyond(0, 0, 3, "sheet", 0, 0, 1);
        x.beyond(0, 0, 3, "sheet", 0, -1, 0);
        x.beyond(1, -1, 2, "sheet", 0, 0, 1);
        x.due(1, "sheet", 0, 2, 1);
        x.due(1, "write", 0, 0, MOST);
        x.beyond(1, -1, 2, "sheet", 0, 0, 1);
        x.items(0, MOST);
    }

    @Said(where = "Promise 35", words = "SIZE: n is below 0.")
    void sheetSize() {
        x.due(1, "sheet", 0, 2, 1);
        x.due(1, "write", 0, 0, MOST);
        for (int sort = 0; sort <= 2; sort++) {
            x.refused(SIZE, "sheet", 0, sort, -1);
            x.refused(SIZE, "sheet", 0, sort, LEAST_INT);
        }
        x.items(0, MOST);
        x.due(0, "sheet", 0, 2, 0);
    }

    @Said(where = "Promise 35", words = "BEYOND: above 40.")
    void sheetBeyondN() {
        x.due(1, "sheet", 0, 2, 1);
        x.due(1, "write", 0, 0, MOST);
        for (int sort = 0; sort <= 2; sort++) {
            x.refused(BEYOND, "sheet", 0, sort, 41);
            x.refused(BEYOND, "sheet", 0, sort, MOST_INT);
        }
        x.items(0, MOST);
        x.due(40, "sheet", 0, 2, 40);
    }

    // ---- 36: write

    @Said(where = "Promise 36", words = "Number i of it becomes v (its lowest bits): 1.")
    void writeTheLowestBits() {
        long[] written = {127, 128, 255, 256, -128, -129, MOST_INT, MOST_INT + 1L, (1L << 32) - 1, 1L << 32, LEAST_INT,
            LEAST_INT - 1L, MOST, LEAST, 0x1234567890ABCDEFL};
        for (int sort = 0; sort <= 2; sort++) {
            x.due(15, "sheet", sort, sort, 15);
            for (int i = 0; i < 15; i++) {
                x.due(1, "write", sort, i, written[i]);
            }
            for (int i = 0; i < 15; i++) {
                x.due(sort == 0 ? (byte) written[i] : sort == 1 ? (int) written[i] : written[i], "item", sort, i);
            }
        }
    }

    @Said(where = "Promise 36", words = "Number i of it becomes v (its lowest bits): 1.")
    void writeFirstAndLast() {
        x.due(40, "sheet", 2, 2, 40);
        x.due(1, "write", 2, 0, LEAST);
        x.due(1, "write", 2, 39, MOST);
        x.due(LEAST, "item", 2, 0);
        x.due(MOST, "item", 2, 39);
        for (int i = 1; i < 39; i++) {
            x.due(0, "item", 2, i);
        }
    }

    @Said(where = "Promise 36", words = "BEYOND: no such SHEET.")
    void writeBeyondSheet() {
        x.beyond(0, 0, 3, "write", 0, 0, 1);
        x.due(1, "sheet", 0, 2, 1);
        x.beyond(0, 0, 3, "write", 0, 0, 1);
        x.items(0, 0);
    }

    @Said(where = "Promise 36", words = "MISSING.")
    void writeMissing() {
        for (int s = 0; s <= 3; s++) {
            x.refused(MISSING, "write", s, 0, 1);
            x.refused(MISSING, "write", s, -1, 1);
        }
        x.due(1, "sheet", 0, 2, 1);
        x.due(1, "write", 0, 0, 1);
        x.due(0, "sheet", 0, -1, 0);
        x.refused(MISSING, "write", 0, 0, 1);
    }

    @Said(where = "Promise 36", words = "BEYOND: no such number.")
    void writeBeyondNumber() {
        x.due(3, "sheet", 0, 2, 3);
        x.beyond(1, 0, 2, "write", 0, 0, 1);
        x.items(0, 0, 0, 0);
        x.due(0, "sheet", 0, 0, 0);
        x.refused(BEYOND, "write", 0, 0, 1);
        x.due(40, "sheet", 0, 0, 40);
        x.refused(BEYOND, "write", 0, 40, 1);
        // a row made shorter has no more of the numbers it had
        x.due(2, "sheet", 0, 0, 2);
        x.refused(BEYOND, "write", 0, 2, 1);
    }

    // ---- 37: item

    @Said(where = "Promise 37", words = "Number i of it.")
    void itemFirstAndLast() {
        x.due(40, "sheet", 3, 1, 40);
        x.due(1, "write", 3, 0, -1);
        x.due(1, "write", 3, 39, 1);
        x.due(-1, "item", 3, 0);
        x.due(0, "item", 3, 1);
        x.due(0, "item", 3, 38);
        x.due(1, "item", 3, 39);
    }

    @Said(where = "Promise 37", words = "BEYOND, MISSING, BEYOND likewise.")
    void itemBeyondSheet() {
        x.beyond(0, 0, 3, "item", 0, 0);
        x.due(1, "sheet", 0, 2, 1);
        x.beyond(0, 0, 3, "item", 0, 0);
    }

    @Said(where = "Promise 37", words = "BEYOND, MISSING, BEYOND likewise.")
    void itemMissing() {
        for (int s = 0; s <= 3; s++) {
            x.refused(MISSING, "item", s, 0);
            x.refused(MISSING, "item", s, -1);
            x.refused(MISSING, "item", s, 40);
        }
    }

    @Said(where = "Promise 37", words = "BEYOND, MISSING, BEYOND likewise.")
    void itemBeyondNumber() {
        x.due(3, "sheet", 0, 2, 3);
        x.beyond(1, 0, 2, "item", 0, 0);
        x.due(0, "sheet", 0, 0, 0);
        x.refused(BEYOND, "item", 0, 0);
        x.due(40, "sheet", 0, 0, 40);
        x.due(3, "sheet", 0, 0, 3);
        x.refused(BEYOND, "item", 0, 3);
    }

    // ---- 38: copy

    private static final String COPY = "n numbers of a SHEET from i on come to another one (or the same) from j on, as they all were: n.";

    private void fill(int s, int sort, int size) {
        x.due(size, "sheet", s, sort, size);
        for (int i = 0; i < size; i++) {
            x.due(1, "write", s, i, i + 1);
        }
    }

    @Said(where = "Promise 38", words = COPY)
    void copyOverItself() {
        fill(0, 1, 5);
        x.due(4, "copy", 0, 0, 0, 1, 4);
        x.items(0, 1, 1, 2, 3, 4);
        fill(0, 1, 5);
        x.due(4, "copy", 0, 1, 0, 0, 4);
        x.items(0, 2, 3, 4, 5, 5);
        x.due(5, "copy", 0, 0, 0, 0, 5);
        x.items(0, 2, 3, 4, 5, 5);
    }

    @Said(where = "Promise 38", words = COPY)
    void copyAllAndNothing() {
        for (int sort = 0; sort <= 2; sort++) {
            fill(0, sort, 40);
            x.due(40, "sheet", 3, sort, 40);
            x.due(0, "copy", 0, 0, 3, 0, 0);
            x.due(0, "copy", 0, 40, 3, 40, 0);
            x.due(0, "item", 3, 0);
            x.due(40, "copy", 0, 0, 3, 0, 40);
            x.due(1, "item", 3, 0);
            x.due(40, "item", 3, 39);
            x.due(1, "copy", 0, 39, 3, 0, 1);
            x.due(40, "item", 3, 0);
            x.due(1, "copy", 0, 0, 3, 39, 1);
            x.due(1, "item", 3, 39);
            x.due(39, "item", 3, 38);
        }
        x.due(0, "sheet", 1, 2, 0);
        x.due(0, "copy", 1, 0, 3, 0, 0);
        x.due(0, "copy", 3, 0, 1, 0, 0);
        x.due(0, "copy", 1, 0, 1, 0, 0);
    }

    @Said(where = "Promise 38", words = "BEYOND: no such SHEET (either).")
    void copyBeyondSheet() {
        x.beyond(0, 0, 3, "copy", 0, 0, 0, 0, 0);
        x.beyond(2, 0, 3, "copy", 0, 0, 0, 0, 0);
        fill(0, 1, 2);
        x.beyond(0, 0, 3, "copy", 0, 0, 0, 0, 1);
        x.beyond(2, 0, 3, "copy", 0, 0, 0, 0, 1);
        x.refused(BEYOND, "copy", 4, 0, 4, 0, 0);
    }

    @Said(where = "Promise 38", words = "MISSING.")
    void copyMissing() {
        x.refused(MISSING, "copy", 0, 0, 0, 0, 0);
        fill(0, 1, 2);
        x.refused(MISSING, "copy", 0, 0, 3, 0, 0);
        x.refused(MISSING, "copy", 3, 0, 0, 0, 0);
        x.refused(MISSING, "copy", 3, 0, 2, 0, 1);
        x.due(2, "copy", 0, 0, 0, 0, 2);
    }

    @Said(where = "Promise 38", words = "KIND: unlike sorts.")
    void copyKind() {
        for (int sort = 0; sort <= 2; sort++) {
            fill(sort, sort, 2);
        }
        for (int s = 0; s <= 2; s++) {
            for (int t = 0; t <= 2; t++) {
                if (s == t) {
                    x.due(1, "copy", s, 0, t, 1, 1);
                } else {
                    x.refused(KIND, "copy", s, 0, t, 1, 1);
                    x.refused(KIND, "copy", s, 0, t, 0, 0);
                    x.refused(KIND, "copy", s, 0, t, 0, 9);
                }
            }
        }
    }

    @Said(where = "Promise 38", words = "BEYOND: one has not so many, or i, j, n is below 0.")
    void copyBeyondNumbers() {
        fill(0, 1, 5);
        fill(1, 1, 3);
        x.refused(BEYOND, "copy", 0, 0, 1, 0, 4);
        x.refused(BEYOND, "copy", 1, 0, 0, 0, 4);
        x.refused(BEYOND, "copy", 0, 3, 1, 0, 3);
        x.refused(BEYOND, "copy", 0, 0, 1, 1, 3);
        x.refused(BEYOND, "copy", 0, 5, 1, 0, 1);
        x.refused(BEYOND, "copy", 0, 0, 1, 3, 1);
        x.refused(BEYOND, "copy", 0, 6, 1, 0, 0);
        x.refused(BEYOND, "copy", 0, 0, 1, 4, 0);
        x.items(0, 1, 2, 3, 4, 5);
        x.items(1, 1, 2, 3);
        x.due(3, "copy", 0, 2, 1, 0, 3);
        x.items(1, 3, 4, 5);
        x.due(2, "copy", 1, 1, 0, 3, 2);
        x.items(0, 1, 2, 3, 4, 5);
    }

    @Said(where = "Promise 38", words = "BEYOND: one has not so many, or i, j, n is below 0.")
    void copyBelowZeroAndFarAway() {
        fill(0, 1, 5);
        fill(1, 1, 5);
        for (int at = 1; at <= 4; at++) {
            if (at != 2) {
                long[] call = {0, 1, 1, 1, 1};
                long[] outside = {-1, 6, LEAST_INT, MOST_INT};
                for (long v : outside) {
                    call[at] = v;
                    x.refused(BEYOND, "copy", call);
                }
            }
        }
        // sums that go round the ints
        x.refused(BEYOND, "copy", 0, MOST_INT, 1, 0, 1);
        x.refused(BEYOND, "copy", 0, 1, 1, 0, MOST_INT);
        x.refused(BEYOND, "copy", 0, MOST_INT, 1, MOST_INT, MOST_INT);
        x.refused(BEYOND, "copy", 0, LEAST_INT, 1, LEAST_INT, LEAST_INT);
        x.refused(BEYOND, "copy", 0, -1, 1, 0, 0);
        x.refused(BEYOND, "copy", 0, 0, 1, -1, 0);
        x.items(1, 1, 2, 3, 4, 5);
    }
}
