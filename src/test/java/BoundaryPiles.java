/** Boundary cases of promises 39 to 43: piles, what is told. */
final class BoundaryPiles extends Boundary {
    // ---- 39, 40: image, back

    @Said(where = "Promise 39", words = "SHAPES, THE THREE, z come to THE PILE: how many images it has.")
    void imageFromOneToEight() {
        for (int n = 1; n <= 8; n++) {
            if (n <= 6) {
                x.due(n - 1, "straight", 0, n);
            }
            x.ask("seed", 100 + n);
            x.due(n, "image");
            x.due(n, "count", 3);
        }
        // each kept what there was when it was made
        for (int n = 8; n >= 1; n--) {
            x.due(Math.min(n, 6), "back");
            x.due(100 + n, "count", 4);
            x.due(n - 1, "count", 3);
            x.due(Math.min(n, 6), "of", Math.min(n, 6) - 1, 5);
            x.refused(BEYOND, "of", Math.min(n, 6), 5);
        }
    }

    @Said(where = "Promise 39", words = "SHAPES, THE THREE, z come to THE PILE: how many images it has.")
    void imagesDoNotChangeWithWhatFollows() {
        threePoints(x);
        x.due(1, "three", 2, 0, 1);
        x.due(1, "image");
        x.due(5, "change", 2, 1, 1);
        x.due(1, "swap", 0, 2);
        x.due(1, "three", 0, 1, 2);
        x.due(1, "seed", 77);
        x.due(3, "straight", 0, 0);
        x.due(3, "back");
        x.due(5, "of", 2, 1);
        x.due(3, "of", 0, 1);
        x.due(2, "ofThree", 0);
        x.due(0, "ofThree", 1);
        x.due(1, "ofThree", 2);
        x.due(1, "count", 4);
    }

    @Said(where = "Promise 39", words = "SHAPES, THE THREE, z come to THE PILE: how many images it has.")
    void imagesKeepEachMeasure() {
        x.due(0, "round", -5, 4, 3);
        x.due(1, "straight", 2, -30);
        x.due(2, "straight", 4, 17);
        x.due(1, "image");
        for (int what = 1; what <= 3; what++) {
            x.ask("change", 0, what, 1);
        }
        for (int what = 4; what <= 5; what++) {
            x.ask("change", 1, what, 1);
        }
        x.due(1, "swap", 1, 2);
        x.due(1, "swap", 0, 1);
        x.due(3, "back");
        int[] round = {-5, 4, 3};
        for (int what = 1; what <= 3; what++) {
            x.due(round[what - 1], "of", 0, what);
        }
        x.due(2, "of", 1, 4);
        x.due(-30, "of", 1, 5);
        x.due(4, "of", 2, 4);
        x.due(17, "of", 2, 5);
        x.due(-4, "of", 2, 8);
    }

    @Said(where = "Promise 39", words = "FULL.")
    void imageFull() {
        for (int n = 1; n <= 8; n++) {
            x.due(n, "image");
        }
        x.due(1, "seed", 5);
        x.refused(FULL, "image");
        x.due(5, "count", 4);
        x.due(0, "back");
        // the refused one was not kept
        x.due(1, "count", 4);
        x.due(8, "image");
        x.refused(FULL, "image");
    }

    @Said(where = "Promise 40", words = "They become what came there last, which goes from THE PILE: how many SHAPES.")
    void backToWhatCameLast() {
        x.due(1, "image");
        for (int i = 0; i < 6; i++) {
            x.due(i, "round", i - 5, i, i);
        }
        x.due(2, "image");
        x.due(6, "prune", 1);
        x.due(6, "back");
        for (int i = 0; i < 6; i++) {
            x.due(i - 5, "of", i, 1);
            x.due(i, "of", i, 2);
            x.due(i, "of", i, 3);
        }
        x.due(1, "count", 3);
        x.due(0, "back");
        x.due(0, "count", 0);
        x.due(0, "count", 3);
    }

    @Said(where = "Promise 40", words = "They become what came there last, which goes from THE PILE: how many SHAPES.")
    void backLeavesSheetsAndSpots() {
        x.due(1, "image");
        x.due(1, "ratio", 0, 1, 2);
        x.due(2, "sheet", 0, 1, 2);
        x.due(1, "write", 0, 1, 7);
        x.due(0, "back");
        x.spot(0, 1, 0, 0, 2);
        x.items(0, 0, 7);
    }

    @Said(where = "Promise 40", words = "They become what came there last, which goes from THE PILE: how many SHAPES.")
    void backHasAnswersOfItsOwn() {
        threePoints(x);
        x.due(5, "answer", 0, 2, 0);
        x.due(1, "image");
        x.due(5, "change", 2, 1, 0);
        x.due(25, "answer", 0, 2, 0);
        x.due(3, "back");
        x.due(5, "answer", 0, 2, 0);
        x.due(1, "answer", 0, 2, 3);
        // THE THREE of an image may be such as aren't there
        x.due(1, "image");
        x.due(2, "drop");
        x.due(2, "image");
        x.due(2, "round", 5, 0, 0);
        x.due(1, "answers", 0);
        x.due(2, "back");
        x.refused(STATE, "answers", 0);
        x.due(3, "back");
        x.due(1, "answers", 0);
    }

    @Said(where = "Promise 40", words = "NONE: it has none.")
    void backNone() {
        x.refused(NONE, "back");
        x.due(0, "round", 1, 2, 3);
        x.due(1, "seed", 9);
        x.refused(NONE, "back");
        x.due(1, "count", 0);
        x.due(9, "count", 4);
        x.due(1, "image");
        x.due(1, "back");
        x.refused(NONE, "back");
    }

    // ---- 41: seed

    @Said(where = "Promise 41", words = "z becomes v: what it was.")
    void seedAnyInt() {
        x.due(1, "seed", LEAST_INT);
        x.due(LEAST_INT, "count", 4);
        x.due(LEAST_INT, "seed", MOST_INT);
        x.due(MOST_INT, "seed", 0);
        x.due(0, "seed", -1);
        x.due(-1, "seed", -1);
        x.due(-1, "count", 4);
        x.due(0, "status", -1);
    }

    // ---- 42: count

    private static final String COUNT = "0 SHAPES, 1 ROUNDS, 2 POINTS, 3 images of THE PILE, 4 z, 5 SPOTS that hold something.";

    @Said(where = "Promise 42", words = COUNT)
    void countOfNothingAndOfAll() {
        int[] first = {0, 0, 0, 0, 1, 0};
        for (int what = 0; what <= 5; what++) {
            x.due(first[what], "count", what);
        }
        for (int i = 0; i < 6; i++) {
            x.due(i, "round", 0, 0, 0);
            x.due(1, "ratio", i, 0, 1);
        }
        for (int n = 1; n <= 8; n++) {
            x.due(n, "image");
        }
        int[] full = {6, 6, 6, 8, 1, 6};
        for (int what = 0; what <= 5; what++) {
            x.due(full[what], "count", what);
        }
    }

    @Said(where = "Promise 42", words = COUNT)
    void pointsCountAsRoundsToo() {
        x.due(0, "round", 0, 0, 1);
        x.due(1, "round", 0, 0, 0);
        x.due(2, "straight", 0, 0);
        x.due(3, "straight", 2, 0);
        x.due(4, "round", 1, 0, 0);
        x.due(5, "count", 0);
        x.due(3, "count", 1);
        x.due(2, "count", 2);
        x.due(0, "change", 1, 3, 5);
        x.due(3, "count", 1);
        x.due(1, "count", 2);
        x.due(4, "drop");
        x.due(2, "count", 1);
        x.due(0, "count", 2);
    }

    @Said(where = "Promise 42", words = "BEYOND.")
    void countBeyond() {
        x.beyond(0, 0, 5, "count", 0);
    }

    // ---- 43: status

    private static final String STATUS = "How many acts answered a finding ever (back() takes none back): which -1: all, 0 to 7: BEYOND to "
        + "OVER.";

    private void statusesAre(int... statuses) {
        for (int which = -1; which < 8; which++) {
            x.due(statuses[which + 1], "status", which);
        }
    }

    @Said(where = "Promise 43", words = STATUS)
    void statusOfEachFinding() {
        statusesAre(0, 0, 0, 0, 0, 0, 0, 0, 0);
        x.refused(BEYOND, "round", 6, 0, 0);
        statusesAre(1, 1, 0, 0, 0, 0, 0, 0, 0);
        for (int n = 0; n < 2; n++) {
            x.refused(NONE, "drop");
        }
        for (int n = 0; n < 3; n++) {
            x.refused(STATE, "draw");
        }
        for (int n = 0; n < 4; n++) {
            x.refused(MISSING, "number", 0, 0);
        }
        for (int n = 0; n < 5; n++) {
            x.refused(SIZE, "sheet", 0, 0, -1);
        }
        statusesAre(15, 1, 0, 0, 2, 3, 4, 5, 0);
        for (int i = 0; i < 6; i++) {
            x.due(i, "round", 0, 0, 1);
        }
        for (int n = 0; n < 6; n++) {
            x.refused(FULL, "round", 0, 0, 1);
        }
        for (int n = 0; n < 7; n++) {
            x.refused(KIND, "of", 0, 4);
        }
        x.hold(0, MOST, 0, 0, 1);
        for (int n = 0; n < 8; n++) {
            x.refused(OVER, "work", 0, 0, 0, 0);
        }
        statusesAre(36, 1, 6, 7, 2, 3, 4, 5, 8);
    }

    @Said(where = "Promise 43", words = STATUS)
    void backTakesNoneBack() {
        x.refused(NONE, "back");
        x.due(1, "image");
        x.refused(BEYOND, "round", 6, 0, 0);
        x.refused(BEYOND, "item", 4, 0);
        x.due(0, "back");
        statusesAre(3, 2, 0, 0, 1, 0, 0, 0, 0);
        x.refused(NONE, "back");
        statusesAre(4, 2, 0, 0, 2, 0, 0, 0, 0);
    }

    @Said(where = "Promise 43", words = "BEYOND (counted from then on): another one.")
    void statusBeyondIsCounted() {
        x.refused(BEYOND, "status", 8);
        x.due(1, "status", 0);
        x.due(1, "status", -1);
        x.refused(BEYOND, "status", -2);
        x.due(2, "status", 0);
        x.refused(BEYOND, "status", LEAST_INT);
        x.refused(BEYOND, "status", MOST_INT);
        statusesAre(4, 4, 0, 0, 0, 0, 0, 0, 0);
    }
}
