/** For each promise: ordinary inputs, the edges that the document names, wrong inputs; answers worked out by hand. */
public final class PromiseTests {
    private static final int BEYOND = -1000001;
    private static final int FULL = -1000002;
    private static final int KIND = -1000003;
    private static final int NONE = -1000004;
    private static final int STATE = -1000005;
    private static final int MISSING = -1000006;
    private static final int SIZE = -1000007;
    private static final int OVER = -1000008;
    private static final long LONG_BEYOND = -4000000000000000001L;
    private static final long LONG_NONE = -4000000000000000004L;
    private static final long LONG_STATE = -4000000000000000005L;
    private static final long LONG_MISSING = -4000000000000000006L;

    private static int wrong = 0;
    private static int checks = 0;

    private static void due(String call, long got, long want) {
        checks++;
        if (got != want) {
            wrong++;
            System.out.println(call + " answered " + got + ", due is " + want);
        }
    }

    public static void main(String[] args) {
        shapesTold();
        shapesChanged();
        shapesTogether();
        rings();
        threeChosen();
        draws();
        answersOfPoints();
        answersOfStraights();
        answersOfRounds();
        answersLoose();
        answersAlongTheCone();
        answersOrdered();
        answersMissing();
        touching();
        laying();
        inverting();
        telling();
        putting();
        ratiosAndRoots();
        working();
        workingOver();
        comparing();
        takenAs();
        sheets();
        copies();
        piles();
        statuses();
        System.out.println(checks + " checks, " + wrong + " wrong");
        if (wrong != 0) {
            System.exit(1);
        }
    }

    // Promises 1 to 4, 6
    private static void shapesTold() {
        ThreeTouched x = new ThreeTouched();
        for (int what = 0; what <= 5; what++) {
            due("1: count(" + what + ")", x.count(what), what == 4 ? 1 : 0);
        }
        for (int k = 0; k < 3; k++) {
            due("1: ofThree(" + k + ")", x.ofThree(k), k);
        }
        for (int s = 0; s < 4; s++) {
            due("1: item", x.item(s, 0), LONG_MISSING);
        }
        due("1: status(-1)", x.status(-1), 4);
        due("2: round(6,0,0)", x.round(6, 0, 0), BEYOND);
        due("2: round(-6,0,0)", x.round(-6, 0, 0), BEYOND);
        due("2: round(0,6,0)", x.round(0, 6, 0), BEYOND);
        due("2: round(0,-6,0)", x.round(0, -6, 0), BEYOND);
        due("2: round(0,0,-1)", x.round(0, 0, -1), BEYOND);
        due("2: round(0,0,6)", x.round(0, 0, 6), BEYOND);
        due("2: round(-5,5,5)", x.round(-5, 5, 5), 0);
        due("2: round(5,-5,0)", x.round(5, -5, 0), 1);
        due("3: straight(-1,0)", x.straight(-1, 0), BEYOND);
        due("3: straight(6,0)", x.straight(6, 0), BEYOND);
        due("3: straight(0,31)", x.straight(0, 31), BEYOND);
        due("3: straight(0,-31)", x.straight(0, -31), BEYOND);
        due("3: straight(5,30)", x.straight(5, 30), 2);
        due("3: straight(1,-30)", x.straight(1, -30), 3);
        due("3: straight(2,0)", x.straight(2, 0), 4);
        due("2: round", x.round(3, 4, 2), 5);
        due("2: round, full", x.round(0, 0, 0), FULL);
        due("3: straight, full", x.straight(0, 0), FULL);
        due("2: round, beyond first", x.round(0, 0, 6), BEYOND);
        due("3: straight, beyond first", x.straight(6, 0), BEYOND);
        int[] kinds = {1, 3, 2, 4, 2, 1};
        for (int i = 0; i < 6; i++) {
            due("4: of(" + i + ",0)", x.of(i, 0), kinds[i]);
        }
        int[] fifth = {1, 3, 4, 2, KIND, KIND, 1, -6, -8, 21};
        int[] second = {2, KIND, KIND, KIND, 5, 30, 0, 4, -3, -30};
        for (int what = 0; what <= 9; what++) {
            due("4: of(5," + what + ")", x.of(5, what), fifth[what]);
            due("4: of(2," + what + ")", x.of(2, what), second[what]);
        }
        due("4: of(5,10)", x.of(5, 10), BEYOND);
        due("4: of(5,-1)", x.of(5, -1), BEYOND);
        due("4: of(6,0)", x.of(6, 0), BEYOND);
        due("4: of(-1,0)", x.of(-1, 0), BEYOND);
        int[][] as = {{5, 5, KIND, KIND, KIND}, {0, 0, KIND, 0, KIND}, {30, KIND, 30, KIND, KIND}, {-30, KIND, -30, KIND, -30}};
        for (int i = 0; i < 4; i++) {
            for (int kind = 0; kind <= 4; kind++) {
                due("6: as(" + i + "," + kind + ")", x.as(i, kind), as[i][kind]);
            }
        }
        due("6: as(0,5)", x.as(0, 5), BEYOND);
        due("6: as(0,-1)", x.as(0, -1), BEYOND);
        due("6: as(6,0)", x.as(6, 0), BEYOND);
        int[][] forms = {{1, 0}, {0, 1}, {3, 4}, {4, 3}, {3, -4}, {4, -3}};
        for (int slant = 0; slant <= 5; slant++) {
            x.change(2, 4, slant);
            due("4: a", x.of(2, 7), forms[slant][0]);
            due("4: b", x.of(2, 8), forms[slant][1]);
        }
    }

    // Promises 5, 7 to 10, 42
    private static void shapesChanged() {
        ThreeTouched x = new ThreeTouched();
        due("7: drop()", x.drop(), NONE);
        due("10: turn()", x.turn(), 0);
        x.round(1, 2, 3);
        x.straight(2, 7);
        due("5: x", x.change(0, 1, -5), 1);
        due("5: y", x.change(0, 2, 5), 2);
        due("5: RADIUS", x.change(0, 3, 0), 3);
        due("5: SLANT", x.change(1, 4, 0), 2);
        due("5: c", x.change(1, 5, -30), 7);
        due("5: now x", x.of(0, 1), -5);
        due("5: now y", x.of(0, 2), 5);
        due("5: now a POINT", x.of(0, 0), 3);
        due("5: now a PLAIN", x.of(1, 0), 4);
        due("5: now c", x.of(1, 5), -30);
        due("5: what 0", x.change(0, 0, 0), BEYOND);
        due("5: what 6", x.change(0, 6, 0), BEYOND);
        due("5: no SHAPE", x.change(2, 1, 0), BEYOND);
        due("5: KIND ahead of v", x.change(0, 4, 99), KIND);
        due("5: KIND", x.change(1, 3, 1), KIND);
        due("5: v x", x.change(0, 1, 6), BEYOND);
        due("5: v y", x.change(0, 2, -6), BEYOND);
        due("5: v RADIUS", x.change(0, 3, -1), BEYOND);
        due("5: v SLANT", x.change(1, 4, 6), BEYOND);
        due("5: v c", x.change(1, 5, 31), BEYOND);
        due("5: unchanged", x.of(0, 1), -5);
        due("9: swap", x.swap(0, 1), 1);
        due("9: swapped", x.of(0, 0), 4);
        due("9: swapped", x.of(1, 0), 3);
        due("9: with itself", x.swap(1, 1), 1);
        due("9: still", x.of(1, 0), 3);
        due("9: no SHAPE", x.swap(0, 2), BEYOND);
        due("9: no SHAPE", x.swap(-1, 0), BEYOND);
        x.round(1, 1, 1);
        due("10: turn()", x.turn(), 3);
        due("10: turned", x.of(0, 0), 1);
        due("10: turned", x.of(1, 0), 3);
        due("10: turned", x.of(2, 0), 4);
        x.straight(3, 1);
        due("42: ROUNDS", x.count(1), 2);
        due("42: POINTS", x.count(2), 1);
        due("8: prune(5)", x.prune(5), BEYOND);
        due("8: prune(-1)", x.prune(-1), BEYOND);
        due("8: prune(4)", x.prune(4), 1);
        due("8: order kept", x.of(0, 0), 1);
        due("8: order kept", x.of(1, 0), 3);
        due("8: order kept", x.of(2, 0), 2);
        due("8: prune(1), POINTS too", x.prune(1), 2);
        due("8: left", x.count(0), 1);
        due("8: left", x.of(0, 4), 3);
        due("8: prune(3)", x.prune(3), 0);
        due("8: prune(2)", x.prune(2), 1);
        x.round(0, 0, 0);
        x.round(0, 0, 1);
        x.straight(0, 0);
        due("8: prune(3)", x.prune(3), 1);
        due("8: left", x.of(0, 3), 1);
        due("7: drop()", x.drop(), 1);
        due("7: left", x.of(0, 0), 1);
        due("8: prune(0)", x.prune(0), 1);
        due("7: drop()", x.drop(), NONE);
    }

    // Promises 11 to 13
    private static void shapesTogether() {
        ThreeTouched x = new ThreeTouched();
        x.round(0, 0, 5);
        x.round(3, 4, 0);
        x.straight(2, 25);
        x.straight(2, 24);
        x.straight(2, 25);
        x.round(0, 0, 5);
        due("11: point on it", x.lie(0, 1), 1);
        due("11: touched straight", x.lie(0, 2), 1);
        due("11: touched straight", x.lie(2, 0), 1);
        due("11: crossed", x.lie(3, 0), 2);
        due("11: beside", x.lie(2, 3), 0);
        due("11: the same straight", x.lie(2, 4), 3);
        due("11: the same round", x.lie(0, 5), 3);
        due("11: point on straight", x.lie(1, 2), 1);
        due("11: point off straight", x.lie(1, 3), 0);
        due("11: itself", x.lie(1, 1), BEYOND);
        due("11: none", x.lie(1, 6), BEYOND);
        x.change(5, 3, 3);
        due("11: one centre", x.lie(0, 5), 0);
        x.change(5, 1, 2);
        due("11: inside touched", x.lie(0, 5), 1);
        x.change(5, 1, 3);
        due("11: crossing", x.lie(5, 0), 2);
        x.change(0, 3, 2);
        x.change(5, 1, 5);
        due("11: outside touched", x.lie(0, 5), 1);
        x.change(5, 3, 2);
        due("11: apart", x.lie(0, 5), 0);
        x.change(5, 1, 3);
        x.change(5, 2, 4);
        x.change(5, 3, 0);
        due("11: the same point", x.lie(1, 5), 3);
        x.change(5, 2, 3);
        due("11: two points", x.lie(1, 5), 0);
        x.change(4, 4, 3);
        due("11: two straights", x.lie(2, 4), 1);
        x.change(4, 4, 0);
        x.change(4, 5, 30);
        due("11: off", x.lie(0, 4), 0);

        ThreeTouched w = new ThreeTouched();
        w.round(0, 0, 1);
        w.round(0, 0, 1);
        for (int far = 1; far <= 4; far++) {
            w.change(1, 1, far);
            for (int radius = 1; radius <= 5; radius++) {
                w.change(1, 3, radius);
                boolean meet = far <= radius + 1 && far >= radius - 1;
                boolean touch = far == radius + 1 || far == radius - 1;
                due("11: rounds " + far + " apart", w.lie(0, 1), touch ? 1 : meet ? 2 : 0);
                due("11: rounds " + far + " apart", w.lie(1, 0), touch ? 1 : meet ? 2 : 0);
            }
        }
        w.straight(0, 0);
        for (int slant = 0; slant <= 5; slant++) {
            int l = slant < 2 ? 1 : 5;
            w.change(2, 4, slant);
            for (int c = -l - 1; c <= l + 1; c++) {
                w.change(2, 5, c);
                due("11: slant " + slant + ", c " + c, w.lie(0, 2), 1 - Integer.compare(c * c, l * l));
            }
        }

        ThreeTouched y = new ThreeTouched();
        y.round(1, -2, 3);
        y.straight(4, 7);
        y.round(4, 2, 1);
        y.round(1, -2, 0);
        y.round(1, 3, 2);
        due("12: of a ROUND", y.power(0, 5, 5), 16 + 49 - 9);
        due("12: of a ROUND", y.power(0, 1, -2), -9);
        due("12: of a ROUND, far", y.power(0, -99, 99), 10000 + 10201 - 9);
        due("12: of a STRAIGHT", y.power(1, 2, 3), 6 - 12 - 7);
        due("12: of a STRAIGHT, far", y.power(1, 99, -99), 297 + 396 - 7);
        due("12: beyond", y.power(1, 100, 0), BEYOND);
        due("12: beyond", y.power(1, 0, -100), BEYOND);
        due("12: beyond", y.power(5, 0, 0), BEYOND);
        // 6 x + 8 y = (16 + 4 - 1) - (1 + 4 - 9) = 23
        due("13: u", y.radical(0, 2, 0), 6);
        due("13: v", y.radical(0, 2, 1), 8);
        due("13: w", y.radical(0, 2, 2), 23);
        due("13: the other way", y.radical(2, 0, 0), 6);
        due("13: the other way", y.radical(2, 0, 2), 23);
        // 10 y = (1 + 9 - 4) - (1 + 4 - 9) = 10
        due("13: u 0", y.radical(4, 0, 0), 0);
        due("13: v", y.radical(4, 0, 1), 1);
        due("13: w", y.radical(4, 0, 2), 1);
        due("13: what", y.radical(0, 2, 3), BEYOND);
        due("13: what", y.radical(0, 2, -1), BEYOND);
        due("13: itself", y.radical(2, 2, 0), BEYOND);
        due("13: none", y.radical(5, 2, 0), BEYOND);
        due("13: KIND", y.radical(0, 1, 0), KIND);
        due("13: KIND", y.radical(1, 0, 0), KIND);
        due("13: one centre", y.radical(0, 3, 0), NONE);
        // v first: x's number is below 0 first
        y.change(2, 1, -5);
        y.change(2, 2, -2);
        // -12 x = (25 + 4 - 1) - (-4) = 32
        due("13: made above 0", y.radical(0, 2, 0), 3);
        due("13: made above 0", y.radical(0, 2, 1), 0);
        due("13: made above 0", y.radical(0, 2, 2), -8);
    }

    // Promise 14
    private static void rings() {
        ThreeTouched x = new ThreeTouched();
        x.round(0, 0, 3);
        x.round(0, 0, 1);
        x.straight(0, 30);
        x.round(5, 5, 0);
        // N 10, M 6: 30 is 30
        due("14: six", x.ring(0, 1), 6);
        due("14: six", x.ring(1, 0), 6);
        due("14: itself", x.ring(1, 1), BEYOND);
        due("14: none", x.ring(1, 4), BEYOND);
        due("14: STRAIGHT", x.ring(2, 1), KIND);
        due("14: POINT", x.ring(1, 3), KIND);
        x.change(1, 3, 3);
        due("14: the same", x.ring(0, 1), STATE);
        x.change(1, 1, 5);
        due("14: crossing", x.ring(0, 1), STATE);
        x.change(0, 1, -1);
        due("14: touching", x.ring(0, 1), STATE);
        // apart squared 64 (x -3 to 5), radii 2, 2: N 56, M 8: 7 M
        x.change(0, 1, -3);
        x.change(0, 3, 2);
        x.change(1, 3, 2);
        due("14: three", x.ring(0, 1), 3);
        // apart squared 32, radii 2 and 2: N 24, M 8: 3 M
        x.change(0, 1, 1);
        x.change(0, 2, 4);
        due("14: four", x.ring(0, 1), 4);
        x.change(0, 2, 5);
        due("14: none", x.ring(0, 1), NONE);
    }

    // Promises 15, 16
    private static void threeChosen() {
        ThreeTouched x = new ThreeTouched();
        x.round(0, 0, 1);
        x.round(1, 0, 1);
        due("15: two only", x.three(0, 1, 2), BEYOND);
        x.round(2, 0, 1);
        x.round(3, 0, 1);
        due("15: three", x.three(3, 1, 2), 1);
        due("16: first", x.ofThree(0), 3);
        due("16: second", x.ofThree(1), 1);
        due("16: third", x.ofThree(2), 2);
        due("16: beyond", x.ofThree(3), BEYOND);
        due("16: beyond", x.ofThree(-1), BEYOND);
        due("15: same", x.three(1, 1, 2), BEYOND);
        due("15: same", x.three(1, 2, 1), BEYOND);
        due("15: same", x.three(2, 1, 1), BEYOND);
        due("15: none", x.three(-1, 1, 2), BEYOND);
        due("15: none", x.three(0, 1, 4), BEYOND);
        due("16: unchanged", x.ofThree(0), 3);
        x.prune(0);
        due("16: whether there or not", x.ofThree(0), 3);
    }

    // Promises 17, 41
    private static void draws() {
        ThreeTouched x = new ThreeTouched();
        x.round(0, 0, 1);
        x.round(1, 0, 1);
        due("17: two only", x.draw(), STATE);
        due("17: nothing drawn", x.count(4), 1);
        x.round(2, 0, 1);
        due("41: seed", x.seed(77), 1);
        due("17: one set", x.draw(), 0);
        int z = 77 * 1103515245 + 12345;
        due("17: z", x.count(4), z);
        x.round(3, 0, 1);
        x.round(4, 0, 1);
        x.round(5, 0, 1);
        due("41: seed", x.seed(-5), z);
        z = -5;
        int[][] sets = new int[20][];
        int many = 0;
        for (int i = 0; i < 6; i++) {
            for (int j = i + 1; j < 6; j++) {
                for (int k = j + 1; k < 6; k++) {
                    sets[many++] = new int[] {i, j, k};
                }
            }
        }
        for (int n = 0; n < 60; n++) {
            z = z * 1103515245 + 12345;
            int number = (z >>> 8) % 20;
            due("17: number", x.draw(), number);
            for (int k = 0; k < 3; k++) {
                due("17: the set " + number, x.ofThree(k), sets[number][k]);
            }
        }
        due("17: z", x.count(4), z);
        due("41: any v", x.seed(Integer.MIN_VALUE), z);
        due("41: told", x.seed(0), Integer.MIN_VALUE);
    }

    private static void dueNumber(String what, ThreeTouched x, int k, int which, long[] pqdm) {
        for (int n = 0; n < 4; n++) {
            due(what + " answer(" + k + "," + which + "," + n + ")", x.answer(k, which, n), pqdm[n]);
        }
    }

    private static void dueCircle(String what, ThreeTouched x, int k, long cx, long cy, long r) {
        dueNumber(what, x, k, 0, new long[] {cx, 0, 0, 1});
        dueNumber(what, x, k, 1, new long[] {cy, 0, 0, 1});
        dueNumber(what, x, k, 2, new long[] {r, 0, 0, 1});
    }

    // Promises 18 to 20
    private static void answersOfPoints() {
        ThreeTouched x = new ThreeTouched();
        x.round(3, 4, 0);
        x.round(-3, 4, 0);
        x.round(5, 0, 0);
        due("18: through three points", x.answers(0), 1);
        due("18: bits of POINTS don't count", x.answers(1), 0);
        due("18: by", x.answers(2), 1);
        dueCircle("20: through three points", x, 0, 0, 0, 5);
        x.change(2, 2, 4);
        due("18: points in a row", x.answers(0), 0);
        due("18: LOOSE with no bit", x.answers(1), 1);
        due("18: none", x.answers(2), 0);
        x.change(2, 2, 0);
        x.change(2, 1, 4);
        // centre 0, c: 9 + (4 - c)(4 - c) = 16 + c c: c = 9/8; r r = 16 + 81/64 = 1105/64
        dueNumber("20: x", x, 0, 0, new long[] {0, 0, 0, 1});
        dueNumber("20: y", x, 0, 1, new long[] {9, 0, 0, 8});
        dueNumber("20: r", x, 0, 2, new long[] {0, 1, 1105, 8});
    }

    private static void answersOfStraights() {
        ThreeTouched x = new ThreeTouched();
        x.straight(0, 0);
        x.straight(1, 0);
        x.straight(2, 12);
        // the triangle 0,0 4,0 0,3: within r 1 at 1,1; beside: r 6 at 6,6; 2 at -2,2 ; 3 at 3,-3
        due("18: of three STRAIGHTS", x.answers(0), 4);
        due("18: none LOOSE", x.answers(1), 0);
        due("18: by", x.answers(2), (1 << 0) | (1 << 4) | (1 << 5) | (1 << 6));
        dueCircle("20: signs 0", x, 0, 6, 6, 6);
        dueCircle("20: signs 4", x, 1, 1, 1, 1);
        due("19: signs(0)", x.signs(0), 0);
        due("19: signs(1)", x.signs(1), 4);
        due("19: signs(2)", x.signs(2), 5);
        due("19: signs(3)", x.signs(3), 6);
        due("19: signs(4)", x.signs(4), NONE);
        due("19: signs(-1)", x.signs(-1), NONE);
        dueCircle("20: signs 5", x, 2, -2, 2, 2);
        dueCircle("20: signs 6", x, 3, 3, -3, 3);
        x.change(2, 5, 0);
        due("18: through one point", x.answers(0), 0);
        due("18: not LOOSE", x.answers(1), 0);
    }

    private static void answersOfRounds() {
        ThreeTouched x = new ThreeTouched();
        x.straight(0, 0);
        x.straight(0, 2);
        x.round(1, 0, 1);
        due("18: between two STRAIGHTS", x.answers(0), 3);
        due("18: LOOSE where both bits are alike", x.answers(1), 153);
        due("18: by", x.answers(2), 68);
        dueCircle("20: itself", x, 0, 1, 0, 1);
        dueCircle("20: of like r and x the lesser y", x, 1, 1, -2, 1);
        dueCircle("20: of like r and x the lesser y", x, 2, 1, 2, 1);
        due("19: signs", x.signs(0), 2);
        due("19: signs", x.signs(1), 6);
        due("19: signs", x.signs(2), 6);
        x.change(0, 4, 1);
        x.change(1, 4, 1);
        x.change(2, 1, 0);
        x.change(2, 2, 1);
        dueCircle("20: of like r the lesser x", x, 1, -2, 1, 1);
        dueCircle("20: of like r the lesser x", x, 2, 2, 1, 1);

        ThreeTouched y = new ThreeTouched();
        y.round(0, 0, 1);
        y.round(4, 0, 1);
        y.round(2, 0, 1);
        // with like bits both equations tell of x alone: not independent, though no circle touches so
        due("18: three in a row", y.answers(1), 129);
        for (int k = 0; k < y.answers(0); k++) {
            due("20: d of no square", y.answer(k, 2, 2) == 1 ? 1 : 0, 0);
        }
        // SIGNS 4: centre 2, c: 4 + c c = (r - 1)(r - 1), c c = (r + 1)(r + 1): r is -1; SIGNS 3: r is 1
        due("18: by", y.answers(2) & 0b11001, 0b1000);
        int once = 0;
        for (int k = 0; k < y.answers(0); k++) {
            if (y.signs(k) == 3) {
                dueNumber("20: outside of the outer two", y, k, 0, new long[] {2, 0, 0, 1});
                dueNumber("20: outside of the outer two", y, k, 2, new long[] {1, 0, 0, 1});
                once++;
            }
        }
        due("18: once by 3", once, 1);
    }

    private static void answersLoose() {
        ThreeTouched x = new ThreeTouched();
        x.round(1, 0, 1);
        x.round(2, 0, 2);
        x.straight(0, 0);
        // SIGNS 0: all touch in 0, 0 from one side: many circles do
        due("18: LOOSE by one touching", x.answers(1) & 1, 1);
        for (int k = 0; k < x.answers(0); k++) {
            due("18: no ANSWER by LOOSE ones", (x.answers(1) >> x.signs(k)) & 1, 0);
        }
        ThreeTouched y = new ThreeTouched();
        y.round(0, 0, 2);
        y.round(0, 0, 2);
        y.round(1, 1, 0);
        // two alike: LOOSE with like bits; with unlike ones no circle has r above 0 at ...
        due("18: two alike", y.answers(1), 1 | 8);
        due("18: point's bit doesn't count", y.answers(1) >> 4, 0);
    }

    private static void answersAlongTheCone() {
        ThreeTouched x = new ThreeTouched();
        // two STRAIGHTS as the sides of one angle and a POINT: planes x - r = 0, y - r = 0 and the point 1, 2
        x.straight(0, 0);
        x.straight(1, 0);
        x.round(1, 2, 0);
        // (r - 1)(r - 1) + (r - 2)(r - 2) = r r: r r - 6 r + 5 = 0: 1 and 5
        due("20: two by SIGNS 0", x.answers(0), 2);
        dueCircle("20: lesser r first", x, 0, 1, 1, 1);
        dueCircle("20: then the greater", x, 1, 5, 5, 5);
        ThreeTouched y = new ThreeTouched();
        // y = 0's line is as steep as the cone: x - r = -1 with centres on y = 0
        y.round(0, 1, 1);
        y.round(0, -1, 1);
        y.straight(0, -2);
        // like bits: y = 0, x = r - 2: (r - 2)(r - 2) + 1 = (r -+ 1)(r -+ 1): 4 - 4 r = -+ 2 r: r 2 (bits 0), r 2/3 (bits 1)
        due("20: along the cone", y.answers(2) & 1, 1);
        dueCircle("20: along the cone", y, 0, 0, 0, 2);
        int at = -1;
        for (int k = 0; k < y.answers(0); k++) {
            if (y.signs(k) == 3) {
                at = k;
            }
        }
        dueNumber("20: along the cone", y, at, 0, new long[] {-4, 0, 0, 3});
        dueNumber("20: along the cone", y, at, 1, new long[] {0, 0, 0, 1});
        dueNumber("20: along the cone", y, at, 2, new long[] {2, 0, 0, 3});
    }

    // Promises 21, 22
    private static void answersOrdered() {
        ThreeTouched x = new ThreeTouched();
        x.straight(0, 0);
        x.straight(1, 0);
        x.straight(2, 12);
        due("21: greatest", x.best(0), 0);
        due("21: least", x.best(1), 1);
        due("21: beyond", x.best(2), BEYOND);
        due("21: beyond", x.best(-1), BEYOND);
        int[] ranks = {3, 0, 1, 2};
        for (int k = 0; k < 4; k++) {
            due("22: rank(" + k + ")", x.rank(k), ranks[k]);
        }
        due("22: none", x.rank(4), NONE);
        due("22: none", x.rank(-1), NONE);
        ThreeTouched y = new ThreeTouched();
        y.straight(0, 0);
        y.straight(0, 2);
        y.round(1, 0, 1);
        due("21: of several the least number", y.best(0), 0);
        due("21: of several the least number", y.best(1), 0);
        for (int k = 0; k < 3; k++) {
            due("22: of like r", y.rank(k), 0);
        }
        ThreeTouched w = new ThreeTouched();
        w.round(0, 0, 1);
        w.round(5, 0, 2);
        w.round(1, 4, 1);
        double[] r = new double[8];
        for (int k = 0; k < 8; k++) {
            r[k] = (w.answer(k, 2, 0) + w.answer(k, 2, 1) * Math.sqrt(w.answer(k, 2, 2))) / w.answer(k, 2, 3);
        }
        for (int k = 0; k < 8; k++) {
            int less = 0;
            for (int j = 0; j < 8; j++) {
                if (r[j] < r[k]) {
                    less++;
                }
            }
            due("22: of unlike roots", w.rank(k), less);
        }
        ThreeTouched none = new ThreeTouched();
        none.round(0, 0, 0);
        none.round(1, 0, 0);
        none.round(2, 0, 0);
        due("21: none", none.best(0), NONE);
        due("21: beyond first", none.best(3), BEYOND);
    }

    // STATE and NONE of promises 18 to 23, 27
    private static void answersMissing() {
        ThreeTouched x = new ThreeTouched();
        x.round(0, 0, 0);
        x.round(4, 0, 0);
        due("18: BEYOND first", x.answers(3), BEYOND);
        due("18: BEYOND first", x.answers(-1), BEYOND);
        due("18: STATE", x.answers(0), STATE);
        due("19: STATE", x.signs(0), STATE);
        due("20: STATE", x.answer(0, 0, 0), LONG_STATE);
        due("20: BEYOND first", x.answer(0, 3, 0), LONG_BEYOND);
        due("20: BEYOND first", x.answer(0, 0, 4), LONG_BEYOND);
        due("20: BEYOND first", x.answer(0, -1, 0), LONG_BEYOND);
        due("20: BEYOND first", x.answer(0, 0, -1), LONG_BEYOND);
        due("21: STATE", x.best(0), STATE);
        due("22: STATE", x.rank(0), STATE);
        due("23: STATE", x.touches(0, 0), STATE);
        due("23: BEYOND first", x.touches(0, 2), BEYOND);
        due("27: STATE", x.put(0, 0, 0), STATE);
        due("27: BEYOND first", x.put(6, 0, 0), BEYOND);
        due("27: BEYOND first", x.put(0, 0, 3), BEYOND);
        x.round(0, 4, 0);
        due("20: NONE", x.answer(1, 0, 0), LONG_NONE);
        due("20: NONE", x.answer(-1, 0, 0), LONG_NONE);
        due("23: NONE", x.touches(1, 0), NONE);
        due("27: NONE", x.put(0, 1, 0), NONE);
        due("27: nothing put", x.count(5), 0);
        due("20: there", x.answer(0, 0, 0), 2);
        x.drop();
        due("20: STATE again", x.answer(0, 0, 0), LONG_STATE);
        x.round(0, 2, 0);
        due("20: found anew", x.answer(0, 1, 0), 1);
        x.swap(0, 2);
        due("20: found anew", x.answer(0, 1, 0), 1);
        x.change(2, 2, -2);
        due("20: found anew", x.answer(0, 1, 0), 0);
    }

    // Promise 23
    private static void touching() {
        ThreeTouched x = new ThreeTouched();
        x.straight(0, 0);
        x.straight(1, 0);
        x.straight(2, 12);
        // ANSWER 1 is 1, 1 with r 1; ANSWER 0 is 6, 6 with r 6
        x.round(2, 1, 0);
        x.round(1, 3, 1);
        x.round(2, 1, 2);
        due("23: POINT on it", x.touches(1, 3), 1);
        due("23: POINT off it", x.touches(0, 3), 0);
        due("23: outside", x.touches(1, 4), 2);
        due("23: inside", x.touches(1, 5), 1);
        due("23: its own", x.touches(1, 0), 1);
        due("23: its own", x.touches(1, 2), 2);
        due("23: not", x.touches(2, 5), 0);
        due("23: no SHAPE", x.touches(1, 6), BEYOND);
        due("23: no SHAPE", x.touches(1, -1), BEYOND);
        x.change(5, 1, 1);
        x.change(5, 3, 1);
        due("23: the same circle", x.touches(1, 5), 1);
        ThreeTouched y = new ThreeTouched();
        y.round(0, 0, 1);
        y.round(5, 0, 2);
        y.round(1, 4, 1);
        for (int k = 0; k < 8; k++) {
            for (int i = 0; i < 3; i++) {
                due("23: of the three", y.touches(k, i), ((y.signs(k) >> i) & 1) + 1);
            }
        }
    }

    private static void dueItems(String what, ThreeTouched x, int s, long... items) {
        for (int i = 0; i < items.length; i++) {
            due(what + " item(" + s + "," + i + ")", x.item(s, i), items[i]);
        }
    }

    // Promise 24
    private static void laying() {
        ThreeTouched x = new ThreeTouched();
        x.round(-5, 5, 3);
        x.straight(5, -30);
        due("24: MISSING", x.lays(0, 0), MISSING);
        due("24: no SHEET", x.lays(4, 0), BEYOND);
        due("24: no SHEET", x.lays(-1, 0), BEYOND);
        due("24: no SHAPE", x.lays(0, 2), BEYOND);
        for (int sort = 0; sort <= 2; sort++) {
            x.sheet(sort, sort, 5);
            x.write(sort, 4, 7);
            due("24: four", x.lays(sort, 0), 4);
            dueItems("24:", x, sort, 1, 10, -10, 41, 7);
        }
        x.sheet(3, 1, 2);
        due("24: two", x.lays(3, 1), 2);
        dueItems("24:", x, 3, 0, 4);
        x.sheet(3, 1, 0);
        due("24: none", x.lays(3, 1), 0);
    }

    private static void writeForm(ThreeTouched x, int s, long a, long b, long c, long d) {
        x.write(s, 0, a);
        x.write(s, 1, b);
        x.write(s, 2, c);
        x.write(s, 3, d);
    }

    // Promise 25
    private static void inverting() {
        ThreeTouched x = new ThreeTouched();
        due("25: no SHEET", x.invert(4, 0, 0, 1), BEYOND);
        due("25: BEYOND first", x.invert(0, 10, 0, 1), BEYOND);
        due("25: BEYOND first", x.invert(0, 0, -10, 1), BEYOND);
        due("25: BEYOND first", x.invert(0, 0, 0, 0), BEYOND);
        due("25: BEYOND first", x.invert(0, 0, 0, 100), BEYOND);
        due("25: MISSING", x.invert(0, 9, -9, 99), MISSING);
        x.sheet(0, 2, 3);
        due("25: SIZE", x.invert(0, 0, 0, 1), SIZE);
        x.sheet(0, 2, 5);
        due("25: STATE", x.invert(0, 0, 0, 1), STATE);
        x.write(0, 4, 9);
        due("25: STATE, of the first four", x.invert(0, 0, 0, 1), STATE);
        // x = 1 in the unit circle: x x + y y - x = 0
        writeForm(x, 0, 0, 2, 0, -2);
        due("25: a line", x.invert(0, 0, 0, 1), 1);
        dueItems("25: a line", x, 0, 1, -1, 0, 0, 9);
        due("25: back", x.invert(0, 0, 0, 1), 1);
        dueItems("25: back", x, 0, 0, 1, 0, -1, 9);
        // worked by hand: A 1, B 2, C 3, D 4 in u 1, v -2, k 5: E 4, F -1, G 5 + 2 - 6 + 4 = 5
        writeForm(x, 0, 1, 2, 3, 4);
        due("25: as told", x.invert(0, 1, -2, 5), 1);
        // 5, 20 - 10, -5 + 20, 25 - 20 - 10 + 25 = 20: by 5
        dueItems("25: as told", x, 0, 1, 2, 3, 4);
        writeForm(x, 0, -3, 0, 0, 0);
        due("25: the first above 0", x.invert(0, 0, 0, 2), 1);
        dueItems("25: the first above 0", x, 0, 0, 0, 0, 1);
        // D alone, the least long: as lowest it is 1
        writeForm(x, 0, 0, 0, 0, Long.MIN_VALUE);
        due("25: 2 G is no long", x.invert(0, 0, 0, 1), OVER);
        writeForm(x, 0, 0, 0, 0, Long.MIN_VALUE / 2);
        due("25: 2 G is the least long", x.invert(0, 0, 0, 1), 1);
        dueItems("25: lowest", x, 0, 1, 0, 0, 0);
        // B the least long, k 1: it stays one and can't be made above 0, but lowest makes it 1
        writeForm(x, 0, 0, Long.MIN_VALUE, 0, 0);
        due("25: the least long lowest", x.invert(0, 0, 0, 1), 1);
        dueItems("25: lowest", x, 0, 0, 1, 0, 0);
        writeForm(x, 0, 0, Long.MIN_VALUE, 1, 0);
        due("25: no lowest", x.invert(0, 0, 0, 1), OVER);
        dueItems("25: unchanged", x, 0, 0, Long.MIN_VALUE, 1, 0);
        writeForm(x, 0, 0, 1, Long.MIN_VALUE, 0);
        due("25: the least long may stay", x.invert(0, 0, 0, 1), 1);
        dueItems("25: the least long may stay", x, 0, 0, 1, Long.MIN_VALUE, 0);
        // 2 A is a product on the way, even by u 0
        writeForm(x, 0, 1L << 62, 0, 0, 0);
        due("25: on the way", x.invert(0, 0, 0, 1), OVER);
        writeForm(x, 0, -(1L << 62), 0, 0, 0);
        due("25: not on the way", x.invert(0, 0, 0, 1), 1);
        dueItems("25: lowest", x, 0, 0, 0, 0, 1);
        // of a sort: bytes
        x.sheet(1, 0, 4);
        writeForm(x, 1, 0, 1, 0, -127);
        due("25: a byte", x.invert(1, 0, 0, 1), 1);
        dueItems("25: a byte", x, 1, 127, -1, 0, 0);
        writeForm(x, 1, 0, -1, 0, -128);
        due("25: no byte", x.invert(1, 0, 0, 1), OVER);
        dueItems("25: unchanged", x, 1, 0, -1, 0, -128);
        writeForm(x, 1, 1, 0, 127, -2);
        // G -2, k E 0, k F 127, k k A 1: 2, 0, -127, -1
        due("25: bytes", x.invert(1, 0, 0, 1), 1);
        dueItems("25: bytes", x, 1, 2, 0, -127, -1);
        x.sheet(2, 1, 4);
        writeForm(x, 2, 1, 0, 0, Integer.MIN_VALUE);
        due("25: no int", x.invert(2, 0, 0, 1), OVER);
        writeForm(x, 2, 1, 0, 0, Integer.MAX_VALUE);
        due("25: an int", x.invert(2, 0, 0, 1), 1);
        dueItems("25: an int", x, 2, Integer.MAX_VALUE, 0, 0, 1);
    }

    // Promise 26
    private static void telling() {
        ThreeTouched x = new ThreeTouched();
        due("26: BEYOND", x.tell(-1), BEYOND);
        due("26: BEYOND", x.tell(4), BEYOND);
        due("26: MISSING", x.tell(0), MISSING);
        x.sheet(0, 2, 3);
        due("26: SIZE", x.tell(0), SIZE);
        x.sheet(0, 2, 4);
        long most = Long.MAX_VALUE;
        long least = Long.MIN_VALUE;
        long[][] rows = {
            {0, 0, 0, 0, 0}, {0, 0, 0, 5, 0}, {0, 1, 0, 5, 2}, {0, 0, -1, 5, 2}, {1, 0, 0, 0, 3}, {1, 0, 0, 1, 0},
            {1, 0, 0, -1, 1}, {-1, 0, 0, 1, 1}, {1, 2, 2, 2, 3}, {1, 2, 2, 3, 0}, {1, 2, 2, 1, 1}, {2, 3, 0, 1, 1},
            {most, most, most, most, 0}, {least, least, least, least, 0}, {least, least, least, most, 1},
            {least / 2, least, 0, least / 2, 3}, {least / 2, least, 0, least / 2 - 1, 0},
            {least / 2, least, 1, least / 2, 1}, {1L << 40, 1L << 41, 0, 1L << 40, 3}, {1L << 40, (1L << 41) - 1, 0, 1L << 40, 0},
        };
        for (long[] row : rows) {
            writeForm(x, 0, row[0], row[1], row[2], row[3]);
            due("26: " + row[0] + " " + row[1] + " " + row[2] + " " + row[3], x.tell(0), row[4]);
        }
    }

    private static void dueSpot(String what, ThreeTouched x, int spot, long p, long q, long d, long m) {
        due(what + " p", x.number(spot, 0), p);
        due(what + " q", x.number(spot, 1), q);
        due(what + " d", x.number(spot, 2), d);
        due(what + " m", x.number(spot, 3), m);
    }

    // Promises 27, 32, 34
    private static void putting() {
        ThreeTouched x = new ThreeTouched();
        x.round(3, 4, 0);
        x.round(-3, 4, 0);
        x.round(4, 0, 0);
        due("27: x", x.put(0, 0, 0), 1);
        due("27: y", x.put(1, 0, 1), 1);
        due("27: r", x.put(5, 0, 2), 1);
        dueSpot("32: x", x, 0, 0, 0, 0, 1);
        dueSpot("32: y", x, 1, 9, 0, 0, 8);
        dueSpot("32: r", x, 5, 0, 1, 1105, 8);
        due("42: SPOTS", x.count(5), 3);
        x.drop();
        dueSpot("32: stays", x, 5, 0, 1, 1105, 8);
        due("32: BEYOND", x.number(6, 0), LONG_BEYOND);
        due("32: BEYOND", x.number(-1, 0), LONG_BEYOND);
        due("32: BEYOND", x.number(0, 4), LONG_BEYOND);
        due("32: BEYOND first", x.number(2, -1), LONG_BEYOND);
        due("32: MISSING", x.number(2, 0), LONG_MISSING);
        due("34: held", x.clear(5), 1);
        due("34: not held", x.clear(5), 0);
        due("34: BEYOND", x.clear(6), BEYOND);
        due("34: BEYOND", x.clear(-1), BEYOND);
        due("32: MISSING", x.number(5, 0), LONG_MISSING);
        due("42: SPOTS", x.count(5), 2);
    }

    // Promises 28, 29
    private static void ratiosAndRoots() {
        ThreeTouched x = new ThreeTouched();
        due("28: ratio", x.ratio(0, -6, -4), 1);
        dueSpot("28: ratio", x, 0, 3, 0, 0, 2);
        due("28: ratio", x.ratio(0, 1000000, -1000000), 1);
        dueSpot("28: ratio", x, 0, -1, 0, 0, 1);
        due("28: ratio", x.ratio(0, 0, -7), 1);
        dueSpot("28: ratio", x, 0, 0, 0, 0, 1);
        due("28: m 0", x.ratio(0, 1, 0), BEYOND);
        due("28: p", x.ratio(0, 1000001, 1), BEYOND);
        due("28: p", x.ratio(0, -1000001, 1), BEYOND);
        due("28: m", x.ratio(0, 1, 1000001), BEYOND);
        due("28: m", x.ratio(0, 1, -1000001), BEYOND);
        due("28: spot", x.ratio(6, 1, 1), BEYOND);
        dueSpot("28: unchanged", x, 0, 0, 0, 0, 1);
        due("29: spot", x.root(6, 1), BEYOND);
        due("29: n", x.root(0, -1), BEYOND);
        due("29: n", x.root(0, 1000001), BEYOND);
        for (int n = 0; n <= 1000000; n += n < 3000 ? 1 : 997) {
            due("29: root " + n, x.root(1, n), 1);
            int f = (int) Math.sqrt(n);
            while (f > 1 && n % (f * f) != 0) {
                f--;
            }
            int rest = n == 0 ? 0 : n / (f * f);
            boolean whole = rest <= 1;
            dueSpot("29: root " + n, x, 1, whole ? f : 0, whole ? 0 : f, whole ? 0 : rest, 1);
        }
        x.root(1, 1000000);
        dueSpot("29: root", x, 1, 1000, 0, 0, 1);
        x.root(1, 999983);
        dueSpot("29: of a prime", x, 1, 0, 1, 999983, 1);
        x.root(1, 994009);
        dueSpot("29: of a prime's square", x, 1, 997, 0, 0, 1);
    }

    // Promise 30
    private static void working() {
        ThreeTouched x = new ThreeTouched();
        due("30: BEYOND", x.work(6, 0, 0, 0), BEYOND);
        due("30: BEYOND", x.work(0, 6, 0, 0), BEYOND);
        due("30: BEYOND", x.work(0, 0, -1, 0), BEYOND);
        due("30: BEYOND", x.work(0, 0, 0, 4), BEYOND);
        due("30: BEYOND", x.work(0, 0, 0, -1), BEYOND);
        due("30: MISSING", x.work(0, 0, 0, 0), MISSING);
        x.root(0, 8);
        due("30: MISSING", x.work(0, 0, 1, 0), MISSING);
        due("30: MISSING", x.work(0, 1, 0, 0), MISSING);
        x.ratio(1, 3, 4);
        due("30: sum", x.work(2, 0, 1, 0), 1);
        dueSpot("30: sum", x, 2, 3, 8, 2, 4);
        due("30: difference", x.work(3, 1, 0, 1), 1);
        dueSpot("30: difference", x, 3, 3, -8, 2, 4);
        due("30: product", x.work(4, 2, 3, 2), 1);
        // (9 - 128) by 16
        dueSpot("30: product", x, 4, -119, 0, 0, 16);
        due("30: quotient", x.work(4, 2, 3, 3), 1);
        // (3 + 8 r)(3 + 8 r) by (9 - 128): (9 + 128 + 48 r) by -119
        dueSpot("30: quotient", x, 4, -137, -48, 2, 119);
        due("30: back", x.work(4, 4, 3, 2), 1);
        dueSpot("30: back", x, 4, 3, 8, 2, 4);
        due("30: with itself", x.work(4, 4, 4, 1), 1);
        dueSpot("30: nothing left", x, 4, 0, 0, 0, 1);
        due("30: by 0", x.work(5, 2, 4, 3), STATE);
        due("30: nothing held", x.count(5), 5);
        due("30: 0 by", x.work(5, 4, 2, 3), 1);
        dueSpot("30: 0 by", x, 5, 0, 0, 0, 1);
        x.root(5, 3);
        for (int what = 0; what < 4; what++) {
            due("30: KIND", x.work(4, 0, 5, what), KIND);
        }
        due("30: with a RATIO", x.work(4, 1, 5, 3), 1);
        // 3/4 by root 3 = root 3 by 4
        dueSpot("30: with a RATIO", x, 4, 0, 1, 3, 4);
        due("30: root by itself", x.work(4, 5, 5, 3), 1);
        dueSpot("30: root by itself", x, 4, 1, 0, 0, 1);
        x.ratio(4, 0, 1);
        due("30: STATE of a ROOT by 0", x.work(4, 5, 4, 3), STATE);
        due("30: 0 times a ROOT", x.work(4, 5, 4, 2), 1);
        dueSpot("30: 0 times a ROOT", x, 4, 0, 0, 0, 1);
    }

    // OVER of promises 30 and 33
    private static void workingOver() {
        ThreeTouched x = new ThreeTouched();
        // 2 by 63 doublings: -2 power 63 is a long, 2 power 63 none
        x.ratio(0, -1, 1);
        for (int n = 0; n < 63; n++) {
            due("30: twice", x.work(0, 0, 0, 0), 1);
        }
        dueSpot("30: the least long", x, 0, Long.MIN_VALUE, 0, 0, 1);
        due("30: OVER", x.work(0, 0, 0, 0), OVER);
        dueSpot("30: unchanged", x, 0, Long.MIN_VALUE, 0, 0, 1);
        x.ratio(1, -1, 1);
        due("30: OVER, less the least", x.work(2, 0, 1, 2), OVER);
        due("30: OVER, less the least", x.work(2, 1, 0, 2), OVER);
        due("30: OVER, by itself", x.work(2, 0, 0, 3), OVER);
        due("30: OVER, by -1", x.work(2, 0, 1, 3), OVER);
        x.ratio(3, 1, 1);
        due("30: as it is", x.work(2, 0, 3, 2), 1);
        dueSpot("30: as it is", x, 2, Long.MIN_VALUE, 0, 0, 1);
        x.ratio(4, 0, 1);
        due("30: 0 less it", x.work(5, 4, 0, 1), OVER);
        due("30: -1 less it", x.work(5, 1, 0, 1), 1);
        dueSpot("30: -1 less it", x, 5, Long.MAX_VALUE, 0, 0, 1);
        due("30: OVER by one", x.work(5, 5, 3, 0), OVER);
        due("33: no int", x.taken(5, 3), OVER);
        due("33: m", x.taken(5, 2), 1);
        due("33: sign", x.taken(0, 0), -1);
        // u u is a number on the way: 2 power 32 squared
        x.ratio(1, 65536, 1);
        x.work(1, 1, 1, 2);
        due("30: OVER on the way", x.work(2, 4, 1, 3), OVER);
        // m in lowest terms above a long: 1 by -(2 power 62) twice
        x.ratio(1, 1, -2);
        for (int n = 0; n < 5; n++) {
            due("30: squared", x.work(1, 1, 1, 2), 1);
        }
        dueSpot("30: 1 by 2 power 32", x, 1, 1, 0, 0, 1L << 32);
        due("30: OVER in m", x.work(1, 1, 1, 2), OVER);
        due("33: m is no int", x.taken(1, 2), OVER);
        x.ratio(2, 1, 2);
        due("30: 1 by 2 power 31", x.work(3, 1, 2, 3), 1);
        due("33: m is no int", x.taken(3, 2), OVER);
        due("33: KIND first", x.taken(3, 3), KIND);
    }

    // Promise 31
    private static void comparing() {
        ThreeTouched x = new ThreeTouched();
        due("31: BEYOND", x.compare(6, 0), BEYOND);
        due("31: BEYOND", x.compare(0, -1), BEYOND);
        due("31: MISSING", x.compare(0, 0), MISSING);
        x.root(0, 2);
        due("31: MISSING", x.compare(0, 1), MISSING);
        due("31: MISSING", x.compare(1, 0), MISSING);
        due("31: itself", x.compare(0, 0), 0);
        // 665857 by 470832 is above root 2 by less than 2 by a billion millions
        x.ratio(1, 665857, 470832);
        due("31: near", x.compare(0, 1), -1);
        due("31: near", x.compare(1, 0), 1);
        x.ratio(1, 275807, 195025);
        due("31: near", x.compare(0, 1), 1);
        x.root(1, 3);
        due("31: unlike roots", x.compare(0, 1), -1);
        due("31: unlike roots", x.compare(1, 0), 1);
        // 1 + root 2 against 1/2 + root 3 + ..: 2.414 against 2.232
        x.ratio(2, 1, 1);
        x.work(3, 0, 2, 0);
        x.ratio(2, 1, 2);
        x.work(4, 1, 2, 0);
        due("31: sums", x.compare(3, 4), 1);
        due("31: sums", x.compare(4, 3), -1);
        // 5 - root 2 = 3.586, 1 + root 3 = 2.732; -root 2 + 3 = 1.586 against root 3 = 1.732
        x.ratio(2, 3, 1);
        x.work(3, 2, 0, 1);
        due("31: both signs", x.compare(3, 1), -1);
        x.ratio(4, -1, 1);
        x.work(3, 3, 4, 2);
        x.work(5, 1, 4, 2);
        due("31: below 0", x.compare(3, 5), 1);
        due("31: below and above 0", x.compare(3, 1), -1);
        x.ratio(4, 0, 1);
        due("31: 0", x.compare(4, 5), 1);
        due("31: 0", x.compare(5, 4), -1);
    }

    // Promise 33
    private static void takenAs() {
        ThreeTouched x = new ThreeTouched();
        due("33: BEYOND", x.taken(6, 0), BEYOND);
        due("33: BEYOND", x.taken(0, 4), BEYOND);
        due("33: BEYOND first", x.taken(0, -1), BEYOND);
        due("33: MISSING", x.taken(0, 3), MISSING);
        x.root(0, 12);
        x.ratio(1, -7, 3);
        x.ratio(2, -8, 2);
        x.ratio(3, 0, 1);
        int[][] want = {{1, 3, KIND, KIND}, {-1, KIND, 3, KIND}, {-1, KIND, 1, -4}, {0, KIND, 1, 0}};
        for (int spot = 0; spot < 4; spot++) {
            for (int as = 0; as < 4; as++) {
                due("33: taken(" + spot + "," + as + ")", x.taken(spot, as), want[spot][as]);
            }
        }
        // root 12 - 7/3 is above 0, root 12 - 7/2 below (3.4641)
        x.work(4, 0, 1, 0);
        due("33: sign", x.taken(4, 0), 1);
        x.ratio(1, -7, 2);
        x.work(4, 0, 1, 0);
        due("33: sign", x.taken(4, 0), -1);
    }

    // Promises 35 to 37
    private static void sheets() {
        ThreeTouched x = new ThreeTouched();
        due("35: no SHEET", x.sheet(4, 0, 1), BEYOND);
        due("35: no SHEET", x.sheet(-1, 0, 1), BEYOND);
        due("35: sort", x.sheet(0, 3, 1), BEYOND);
        due("35: sort", x.sheet(0, -2, 1), BEYOND);
        due("35: sort first", x.sheet(0, 3, -1), BEYOND);
        due("35: SIZE", x.sheet(0, 0, -1), SIZE);
        due("35: above 40", x.sheet(0, 0, 41), BEYOND);
        due("35: still MISSING", x.item(0, 0), LONG_MISSING);
        due("35: 40", x.sheet(0, 0, 40), 40);
        due("37: item", x.item(0, 39), 0);
        due("37: item", x.item(0, 40), LONG_BEYOND);
        due("37: item", x.item(0, -1), LONG_BEYOND);
        due("37: no SHEET", x.item(4, 0), LONG_BEYOND);
        due("36: write", x.write(0, 39, 200), 1);
        due("36: lowest bits", x.item(0, 39), -56);
        x.write(0, 0, 0x1234567890L);
        due("36: lowest bits", x.item(0, 0), (byte) 0x90);
        due("36: BEYOND", x.write(0, 40, 1), BEYOND);
        due("36: BEYOND", x.write(0, -1, 1), BEYOND);
        due("36: no SHEET", x.write(4, 0, 1), BEYOND);
        due("36: MISSING", x.write(1, 0, 1), MISSING);
        due("36: MISSING first", x.write(1, -1, 1), MISSING);
        x.sheet(1, 1, 1);
        x.write(1, 0, 0x1234567890L);
        due("36: lowest bits", x.item(1, 0), 0x34567890);
        x.sheet(2, 2, 1);
        x.write(2, 0, Long.MIN_VALUE);
        due("36: longs", x.item(2, 0), Long.MIN_VALUE);
        due("35: anew", x.sheet(0, 2, 40), 40);
        due("35: all 0", x.item(0, 39), 0);
        due("35: MISSING", x.sheet(0, -1, -5), 0);
        due("35: MISSING", x.item(0, 0), LONG_MISSING);
        due("35: MISSING", x.sheet(0, -1, 99), 0);
        due("35: none", x.sheet(0, 1, 0), 0);
        due("35: none", x.item(0, 0), LONG_BEYOND);
    }

    // Promise 38
    private static void copies() {
        ThreeTouched x = new ThreeTouched();
        x.sheet(0, 1, 5);
        x.sheet(1, 1, 3);
        x.sheet(2, 2, 5);
        for (int i = 0; i < 5; i++) {
            x.write(0, i, i + 1);
        }
        due("38: copy", x.copy(0, 2, 1, 0, 3), 3);
        dueItems("38: copy", x, 1, 3, 4, 5);
        due("38: over itself", x.copy(0, 0, 0, 1, 4), 4);
        dueItems("38: over itself", x, 0, 1, 1, 2, 3, 4);
        due("38: over itself", x.copy(0, 1, 0, 0, 4), 4);
        dueItems("38: over itself", x, 0, 1, 2, 3, 4, 4);
        due("38: no SHEET", x.copy(4, 0, 0, 0, 1), BEYOND);
        due("38: no SHEET", x.copy(3, 0, 4, 0, 1), BEYOND);
        due("38: MISSING", x.copy(3, 0, 0, 0, 1), MISSING);
        due("38: MISSING", x.copy(0, 0, 3, 0, 1), MISSING);
        due("38: KIND first", x.copy(0, -1, 2, 0, 1), KIND);
        due("38: BEYOND", x.copy(0, -1, 1, 0, 1), BEYOND);
        due("38: BEYOND", x.copy(0, 0, 1, -1, 1), BEYOND);
        due("38: BEYOND", x.copy(0, 0, 1, 0, -1), BEYOND);
        due("38: BEYOND", x.copy(0, 0, 1, 0, 4), BEYOND);
        due("38: BEYOND", x.copy(1, 1, 0, 0, 3), BEYOND);
        due("38: BEYOND", x.copy(0, 0, 1, 1, 3), BEYOND);
        due("38: far BEYOND", x.copy(0, Integer.MAX_VALUE, 1, 0, Integer.MAX_VALUE), BEYOND);
        due("38: far BEYOND", x.copy(0, 0, 1, Integer.MAX_VALUE, 1), BEYOND);
        due("38: none", x.copy(0, 5, 1, 3, 0), 0);
        dueItems("38: unchanged", x, 1, 3, 4, 5);
    }

    // Promises 39, 40
    private static void piles() {
        ThreeTouched x = new ThreeTouched();
        due("40: NONE", x.back(), NONE);
        x.round(0, 0, 0);
        x.round(4, 0, 0);
        x.round(0, 4, 0);
        x.seed(5);
        x.three(2, 1, 0);
        due("39: image", x.image(), 1);
        x.change(2, 2, 2);
        x.straight(0, 5);
        x.ratio(0, 1, 2);
        x.sheet(0, 0, 2);
        due("39: image", x.image(), 2);
        x.prune(0);
        x.seed(9);
        due("39: image", x.image(), 3);
        due("42: images", x.count(3), 3);
        due("40: back", x.back(), 0);
        due("40: z", x.count(4), 9);
        due("40: back", x.back(), 4);
        due("40: SHAPE", x.of(3, 0), 4);
        due("40: changed one", x.of(2, 2), 2);
        due("40: z", x.count(4), 5);
        x.three(0, 1, 3);
        due("40: answers", x.answers(0), 2);
        x.clear(0);
        due("40: back", x.back(), 3);
        due("40: THE THREE", x.ofThree(0), 2);
        due("40: SHAPE", x.of(2, 2), 4);
        due("40: ANSWERS found anew", x.answer(0, 0, 0), 2);
        due("40: ANSWERS found anew", x.answer(0, 1, 0), 2);
        due("40: spots stay", x.number(0, 0), LONG_MISSING);
        due("40: sheets stay", x.item(0, 0), 0);
        due("40: NONE", x.back(), NONE);
        for (int n = 1; n <= 8; n++) {
            due("39: image", x.image(), n);
        }
        due("39: FULL", x.image(), FULL);
        due("42: images", x.count(3), 8);
        due("40: back", x.back(), 3);
        due("39: room again", x.image(), 8);
    }

    // Promises 42, 43
    private static void statuses() {
        ThreeTouched x = new ThreeTouched();
        due("42: BEYOND", x.count(6), BEYOND);
        due("42: BEYOND", x.count(-1), BEYOND);
        due("43: all", x.status(-1), 2);
        x.image();
        x.drop();
        x.draw();
        x.number(0, 0);
        x.sheet(0, 0, -1);
        for (int i = 0; i < 6; i++) {
            x.round(0, 0, 1);
        }
        x.round(0, 0, 1);
        x.of(0, 4);
        x.back();
        int[] want = {2, 1, 1, 1, 1, 1, 1, 0};
        for (int which = 0; which < 8; which++) {
            due("43: status(" + which + ")", x.status(which), want[which]);
        }
        due("43: all", x.status(-1), 8);
        due("43: BEYOND", x.status(8), BEYOND);
        due("43: counted", x.status(0), 3);
        due("43: BEYOND", x.status(-2), BEYOND);
        due("43: counted", x.status(0), 4);
        due("43: all", x.status(-1), 10);
        x.seed(BEYOND);
        due("43: no finding", x.count(4), BEYOND);
        due("43: no finding", x.seed(0), BEYOND);
        due("43: no finding", x.status(0), 4);
        x.ratio(0, 1000000, 1);
        for (int n = 0; n < 4; n++) {
            x.work(0, 0, 0, 2);
        }
        due("43: OVER", x.status(7), 3);
    }
}
