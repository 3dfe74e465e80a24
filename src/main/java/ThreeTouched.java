/**
 * Circles that touch three given shapes (rounds, points, straights), each told exactly; and what the
 * document promises beside it. No call throws: what can't be answered is told as a finding.
 */
public final class ThreeTouched {
    private static final int LOW = -1000001;
    private static final long LONG_LOW = -4000000000000000001L;

    private static final int BEYOND = 0;
    private static final int FULL = 1;
    private static final int KIND = 2;
    private static final int NONE = 3;
    private static final int STATE = 4;
    private static final int MISSING = 5;
    private static final int SIZE = 6;
    private static final int OVER = 7;
    private static final int FINDINGS = 8;

    private static final int SHAPE = 0;
    private static final int ROUND = 1;
    private static final int STRAIGHT = 2;
    private static final int POINT = 3;
    private static final int PLAIN = 4;

    private static final int NUMBER = 0;
    private static final int ROOT = 1;
    private static final int RATIO = 2;
    private static final int WHOLE = 3;

    private static final int MOST_SHAPES = 6;
    private static final int MOST_IMAGES = 8;
    private static final int MOST_SIGNS = 8;
    private static final int MOST_ANSWERS = 16;
    private static final int MOST_ITEMS = 40;
    private static final int SHEETS = 4;
    private static final int SPOTS = 6;
    private static final int FORM = 4;
    private static final int NO_SORT = -1;

    private static final int[] SLANT_A = {1, 0, 3, 4, 3, 4};
    private static final int[] SLANT_B = {0, 1, 4, 3, -4, -3};
    private static final int[] SLANT_L = {1, 1, 5, 5, 5, 5};

    private final Scene scene = new Scene();
    private final Scene[] pile = new Scene[MOST_IMAGES];
    private int images;
    private final Num[] spots = new Num[SPOTS];
    private final Sheet[] sheets = new Sheet[SHEETS];
    private final Judge judge = new Judge();
    private final Worker worker = new Worker();
    private final Finder finder = new Finder();
    private final int[] findings = new int[FINDINGS];

    public ThreeTouched() {
        for (int i = 0; i < MOST_IMAGES; i++) {
            pile[i] = new Scene();
        }
        for (int i = 0; i < SPOTS; i++) {
            spots[i] = new Num();
        }
        for (int i = 0; i < SHEETS; i++) {
            sheets[i] = new Sheet();
        }
    }

    // ---- findings, what there is

    private int finding(int which) {
        if (isWithin(which, 0, FINDINGS - 1)) {
            findings[which]++;
        }
        return LOW - which;
    }

    private long longFinding(int which) {
        finding(which);
        return LONG_LOW - which;
    }

    private static boolean isWithin(int v, int least, int most) {
        return v >= least && v <= most;
    }

    private static boolean isSheet(int s) {
        return isWithin(s, 0, SHEETS - 1);
    }

    private static boolean isSpot(int spot) {
        return isWithin(spot, 0, SPOTS - 1);
    }

    private boolean areTwoShapes(int i, int j) {
        return scene.has(i) && scene.has(j) && i != j;
    }

    // ---- shapes

    public int round(int x, int y, int radius) {
        if (!isWithin(x, -5, 5) || !isWithin(y, -5, 5) || !isWithin(radius, 0, 5)) {
            return finding(BEYOND);
        }
        if (scene.size >= MOST_SHAPES) {
            return finding(FULL);
        }
        return scene.addRound(x, y, radius);
    }

    public int straight(int slant, int c) {
        if (!isWithin(slant, 0, 5) || !isWithin(c, -30, 30)) {
            return finding(BEYOND);
        }
        if (scene.size >= MOST_SHAPES) {
            return finding(FULL);
        }
        return scene.addStraight(slant, c);
    }

    public int of(int i, int what) {
        if (!scene.has(i) || !isWithin(what, 0, 9)) {
            return finding(BEYOND);
        }
        Shape shape = scene.shapes[i];
        if (what == 0) {
            return shape.lowestKind();
        }
        if (what >= 6) {
            return shape.formNumber(what - 6);
        }
        if (shape.straight != (what >= 4)) {
            return finding(KIND);
        }
        return shape.measure(what);
    }

    public int change(int i, int what, int v) {
        if (!scene.has(i) || !isWithin(what, 1, 5)) {
            return finding(BEYOND);
        }
        if (scene.shapes[i].straight != (what >= 4)) {
            return finding(KIND);
        }
        if (!Shape.mayMeasure(what, v)) {
            return finding(BEYOND);
        }
        return scene.setMeasure(i, what, v);
    }

    public int as(int i, int as) {
        if (!scene.has(i) || !isWithin(as, SHAPE, PLAIN)) {
            return finding(BEYOND);
        }
        Shape shape = scene.shapes[i];
        if (!shape.isOf(as)) {
            return finding(KIND);
        }
        return shape.straight ? shape.c : shape.radius;
    }

    public int drop() {
        if (scene.size == 0) {
            return finding(NONE);
        }
        return scene.dropLast();
    }

    public int prune(int kind) {
        if (!isWithin(kind, SHAPE, PLAIN)) {
            return finding(BEYOND);
        }
        return scene.takeOut(kind);
    }

    public int swap(int i, int j) {
        if (!scene.has(i) || !scene.has(j)) {
            return finding(BEYOND);
        }
        scene.exchange(i, j);
        return 1;
    }

    public int turn() {
        return scene.reverse();
    }

    public int lie(int i, int j) {
        if (!areTwoShapes(i, j)) {
            return finding(BEYOND);
        }
        return scene.shapes[i].commonWith(scene.shapes[j]);
    }

    public int power(int i, int x, int y) {
        if (!scene.has(i) || !isWithin(x, -99, 99) || !isWithin(y, -99, 99)) {
            return finding(BEYOND);
        }
        return scene.shapes[i].powerIn(x, y);
    }

    public int radical(int i, int j, int what) {
        if (!areTwoShapes(i, j) || !isWithin(what, 0, 2)) {
            return finding(BEYOND);
        }
        Shape first = scene.shapes[i];
        Shape second = scene.shapes[j];
        if (first.straight || second.straight) {
            return finding(KIND);
        }
        if (first.x == second.x && first.y == second.y) {
            return finding(NONE);
        }
        return worker.equalPowers(first, second, what);
    }

    public int ring(int i, int j) {
        if (!areTwoShapes(i, j)) {
            return finding(BEYOND);
        }
        Shape first = scene.shapes[i];
        Shape second = scene.shapes[j];
        if (first.lowestKind() != ROUND || second.lowestKind() != ROUND) {
            return finding(KIND);
        }
        if (first.commonWith(second) != 0) {
            return finding(STATE);
        }
        int closed = first.ringWith(second);
        return closed == 0 ? finding(NONE) : closed;
    }

    // ---- the three, answers

    public int three(int i, int j, int k) {
        if (!areTwoShapes(i, j) || !areTwoShapes(j, k) || i == k) {
            return finding(BEYOND);
        }
        scene.choose(i, j, k);
        return 1;
    }

    public int ofThree(int k) {
        if (!isWithin(k, 0, 2)) {
            return finding(BEYOND);
        }
        return scene.three[k];
    }

    public int draw() {
        if (scene.size < 3) {
            return finding(STATE);
        }
        return scene.drawThree();
    }

    public int answers(int what) {
        if (!isWithin(what, 0, 2)) {
            return finding(BEYOND);
        }
        if (missesAnswer(0) == STATE) {
            return finding(STATE);
        }
        if (what == 0) {
            return finder.size;
        }
        return what == 1 ? finder.loose : finder.answered;
    }

    /** Which finding, if any, keeps the k-th ANSWER from being told (-1: none does); ANSWERS are found then. */
    private int missesAnswer(int k) {
        if (!scene.hasThree()) {
            return STATE;
        }
        if (scene.changed) {
            finder.forget();
            for (int signs = 0; signs < MOST_SIGNS; signs++) {
                finder.findBy(scene, signs);
            }
            scene.changed = false;
        }
        return k >= 0 && k < finder.size ? -1 : NONE;
    }

    public int signs(int k) {
        int misses = missesAnswer(k);
        if (misses >= 0) {
            return finding(misses);
        }
        return finder.circles[k].signs;
    }

    public long answer(int k, int which, int what) {
        if (!isWithin(which, 0, 2) || !isWithin(what, 0, 3)) {
            return longFinding(BEYOND);
        }
        int misses = missesAnswer(k);
        if (misses >= 0) {
            return longFinding(misses);
        }
        return finder.circles[k].part(which).part(what);
    }

    public int best(int what) {
        if (!isWithin(what, 0, 1)) {
            return finding(BEYOND);
        }
        int misses = missesAnswer(0);
        if (misses >= 0) {
            return finding(misses);
        }
        return finder.utmost(what == 0 ? 1 : -1);
    }

    public int rank(int k) {
        int misses = missesAnswer(k);
        if (misses >= 0) {
            return finding(misses);
        }
        return finder.howManyLess(finder.circles[k].r);
    }

    public int touches(int k, int i) {
        if (!scene.has(i)) {
            return finding(BEYOND);
        }
        int misses = missesAnswer(k);
        if (misses >= 0) {
            return finding(misses);
        }
        return finder.circles[k].touch(scene.shapes[i]);
    }

    // ---- forms in rows

    public int lays(int s, int i) {
        if (!isSheet(s) || !scene.has(i)) {
            return finding(BEYOND);
        }
        Sheet into = sheets[s];
        if (into.isMissing()) {
            return finding(MISSING);
        }
        int many = Math.min(FORM, into.size);
        for (int n = 0; n < many; n++) {
            into.set(n, scene.shapes[i].formNumber(n));
        }
        return many;
    }

    public int invert(int s, int u, int v, int k) {
        if (!isSheet(s) || !isWithin(u, -9, 9) || !isWithin(v, -9, 9) || !isWithin(k, 1, 99)) {
            return finding(BEYOND);
        }
        Sheet turned = sheets[s];
        if (turned.isMissing()) {
            return finding(MISSING);
        }
        if (turned.size < FORM) {
            return finding(SIZE);
        }
        if (turned.isFormZero()) {
            return finding(STATE);
        }
        if (!worker.turnInsideOut(turned.items, u, v, k) || !turned.mayHold(worker.form)) {
            return finding(OVER);
        }
        for (int n = 0; n < FORM; n++) {
            turned.set(n, worker.form[n]);
        }
        return 1;
    }

    public int tell(int s) {
        if (!isSheet(s)) {
            return finding(BEYOND);
        }
        Sheet told = sheets[s];
        if (told.isMissing()) {
            return finding(MISSING);
        }
        if (told.size < FORM) {
            return finding(SIZE);
        }
        return judge.kindOfForm(told.items);
    }

    // ---- numbers in spots

    public int put(int spot, int k, int which) {
        if (!isSpot(spot) || !isWithin(which, 0, 2)) {
            return finding(BEYOND);
        }
        int misses = missesAnswer(k);
        if (misses >= 0) {
            return finding(misses);
        }
        spots[spot].become(finder.circles[k].part(which));
        return 1;
    }

    public int ratio(int spot, int p, int m) {
        boolean within = isWithin(p, -1000000, 1000000) && isWithin(m, -1000000, 1000000);
        if (!isSpot(spot) || !within || m == 0) {
            return finding(BEYOND);
        }
        spots[spot].hold(p, 0, 0, m);
        return 1;
    }

    public int root(int spot, int n) {
        if (!isSpot(spot) || !isWithin(n, 0, 1000000)) {
            return finding(BEYOND);
        }
        spots[spot].holdRoot(n);
        return 1;
    }

    public int work(int spot, int s, int t, int what) {
        if (!isSpot(spot) || !isSpot(s) || !isSpot(t) || !isWithin(what, 0, 3)) {
            return finding(BEYOND);
        }
        Num left = spots[s];
        Num right = spots[t];
        if (!left.held || !right.held) {
            return finding(MISSING);
        }
        if (left.isOf(ROOT) && right.isOf(ROOT) && left.d != right.d) {
            return finding(KIND);
        }
        if (what == 3 && right.p() == 0 && right.q() == 0) {
            return finding(STATE);
        }
        if (!worker.workOut(left, right, what)) {
            return finding(OVER);
        }
        spots[spot].become(worker.outcome);
        return 1;
    }

    public int compare(int s, int t) {
        if (!isSpot(s) || !isSpot(t)) {
            return finding(BEYOND);
        }
        if (!spots[s].held || !spots[t].held) {
            return finding(MISSING);
        }
        return judge.order(spots[s], spots[t]);
    }

    public long number(int spot, int what) {
        if (!isSpot(spot) || !isWithin(what, 0, 3)) {
            return longFinding(BEYOND);
        }
        if (!spots[spot].held) {
            return longFinding(MISSING);
        }
        return spots[spot].part(what);
    }

    public int taken(int spot, int as) {
        if (!isSpot(spot) || !isWithin(as, NUMBER, WHOLE)) {
            return finding(BEYOND);
        }
        Num num = spots[spot];
        if (!num.held) {
            return finding(MISSING);
        }
        if (!num.isOf(as)) {
            return finding(KIND);
        }
        if (as == NUMBER) {
            return judge.sign(num);
        }
        long told = as == ROOT ? num.d : as == RATIO ? num.m() : num.p();
        return told == (int) told ? (int) told : finding(OVER);
    }

    public int clear(int spot) {
        if (!isSpot(spot)) {
            return finding(BEYOND);
        }
        int held = spots[spot].held ? 1 : 0;
        spots[spot].held = false;
        return held;
    }

    // ---- sheets

    public int sheet(int s, int sort, int n) {
        if (!isSheet(s) || !isWithin(sort, NO_SORT, 2)) {
            return finding(BEYOND);
        }
        if (sort == NO_SORT) {
            sheets[s].become(NO_SORT, 0);
            return 0;
        }
        if (n < 0) {
            return finding(SIZE);
        }
        if (n > MOST_ITEMS) {
            return finding(BEYOND);
        }
        sheets[s].become(sort, n);
        return n;
    }

    /** Which finding, if any, keeps number i of a SHEET from being used: -1 if none does. */
    private int missesItem(int s, int i) {
        if (!isSheet(s)) {
            return BEYOND;
        }
        if (sheets[s].isMissing()) {
            return MISSING;
        }
        return i >= 0 && i < sheets[s].size ? -1 : BEYOND;
    }

    public int write(int s, int i, long v) {
        int misses = missesItem(s, i);
        if (misses >= 0) {
            return finding(misses);
        }
        sheets[s].set(i, v);
        return 1;
    }

    public long item(int s, int i) {
        int misses = missesItem(s, i);
        if (misses >= 0) {
            return longFinding(misses);
        }
        return sheets[s].items[i];
    }

    public int copy(int s, int i, int t, int j, int n) {
        if (!isSheet(s) || !isSheet(t)) {
            return finding(BEYOND);
        }
        Sheet from = sheets[s];
        Sheet into = sheets[t];
        if (from.isMissing() || into.isMissing()) {
            return finding(MISSING);
        }
        if (from.sort != into.sort) {
            return finding(KIND);
        }
        if (!from.hasRow(i, n) || !into.hasRow(j, n)) {
            return finding(BEYOND);
        }
        System.arraycopy(from.items, i, into.items, j, n);
        return n;
    }

    // ---- piles, what is told

    public int image() {
        if (images >= MOST_IMAGES) {
            return finding(FULL);
        }
        pile[images].become(scene);
        images++;
        return images;
    }

    public int back() {
        if (images <= 0) {
            return finding(NONE);
        }
        images--;
        scene.become(pile[images]);
        return scene.size;
    }

    public int seed(int v) {
        int was = scene.z;
        scene.z = v;
        return was;
    }

    public int count(int what) {
        switch (what) {
            case 0:
                return scene.size;
            case 1:
                return scene.howMany(ROUND);
            case 2:
                return scene.howMany(POINT);
            case 3:
                return images;
            case 4:
                return scene.z;
            case 5:
                return spotsHeld();
            default:
                return finding(BEYOND);
        }
    }

    private int spotsHeld() {
        int held = 0;
        for (int i = 0; i < SPOTS; i++) {
            if (spots[i].held) {
                held++;
            }
        }
        return held;
    }

    public int status(int which) {
        if (!isWithin(which, -1, FINDINGS - 1)) {
            return finding(BEYOND);
        }
        if (which >= 0) {
            return findings[which];
        }
        int all = 0;
        for (int i = 0; i < FINDINGS; i++) {
            all += findings[i];
        }
        return all;
    }

    /** A ROUND or a STRAIGHT; one object may become either, so that SHAPES need no new ones. */
    private static final class Shape {
        boolean straight;
        int x;
        int y;
        int radius;
        int slant;
        int c;
        /** The numbers a, b, l of its SLANT. */
        int a;
        int b;
        int l;

        void becomeRound(int newX, int newY, int newRadius) {
            straight = false;
            x = newX;
            y = newY;
            radius = newRadius;
        }

        void becomeStraight(int newSlant, int newC) {
            straight = true;
            setSlant(newSlant);
            c = newC;
        }

        private void setSlant(int newSlant) {
            if (isWithin(newSlant, 0, SLANT_A.length - 1)) {
                slant = newSlant;
                a = SLANT_A[newSlant];
                b = SLANT_B[newSlant];
                l = SLANT_L[newSlant];
            }
        }

        void become(Shape other) {
            straight = other.straight;
            x = other.x;
            y = other.y;
            radius = other.radius;
            setSlant(other.slant);
            c = other.c;
        }

        int lowestKind() {
            if (straight) {
                return slant <= 1 ? PLAIN : STRAIGHT;
            }
            return radius == 0 ? POINT : ROUND;
        }

        boolean isOf(int kind) {
            return kind == SHAPE || kind == (straight ? STRAIGHT : ROUND) || kind == lowestKind();
        }

        int measure(int what) {
            switch (what) {
                case 1:
                    return x;
                case 2:
                    return y;
                case 3:
                    return radius;
                case 4:
                    return slant;
                default:
                    return c;
            }
        }

        static boolean mayMeasure(int what, int v) {
            switch (what) {
                case 1:
                case 2:
                    return isWithin(v, -5, 5);
                case 3:
                case 4:
                    return isWithin(v, 0, 5);
                default:
                    return isWithin(v, -30, 30);
            }
        }

        void setMeasure(int what, int v) {
            switch (what) {
                case 1:
                    x = v;
                    break;
                case 2:
                    y = v;
                    break;
                case 3:
                    radius = v;
                    break;
                case 4:
                    setSlant(v);
                    break;
                default:
                    c = v;
                    break;
            }
        }

        int formNumber(int n) {
            switch (n) {
                case 0:
                    return straight ? 0 : 1;
                case 1:
                    return straight ? a : -2 * x;
                case 2:
                    return straight ? b : -2 * y;
                default:
                    return straight ? -c : x * x + y * y - radius * radius;
            }
        }

        int powerIn(int px, int py) {
            return formNumber(0) * (px * px + py * py) + formNumber(1) * px + formNumber(2) * py + formNumber(3);
        }

        /** The square of how far the centres of two ROUNDS are apart. */
        private int apartSquared(Shape other) {
            return (x - other.x) * (x - other.x) + (y - other.y) * (y - other.y);
        }

        int commonWith(Shape other) {
            if (straight && other.straight) {
                return slant != other.slant ? 1 : c == other.c ? 3 : 0;
            }
            if (straight) {
                return crossings(other);
            }
            return other.straight ? other.crossings(this) : meetings(other);
        }

        /** How many points this STRAIGHT has in common with a ROUND. */
        private int crossings(Shape round) {
            int side = powerIn(round.x, round.y);
            int reach = l * round.radius;
            return 1 - Integer.compare(side * side, reach * reach);
        }

        /** How many points this ROUND has in common with another one, 3 if they are alike. */
        private int meetings(Shape other) {
            int apart = apartSquared(other);
            int sum = radius + other.radius;
            int difference = radius - other.radius;
            if (apart == 0 && difference == 0) {
                return 3;
            }
            if (apart > sum * sum || apart < difference * difference) {
                return 0;
            }
            return apart == sum * sum || apart == difference * difference ? 1 : 2;
        }

        /** How many circles close a ring round this ROUND and another one; 0 if none is told. */
        int ringWith(Shape other) {
            int n = Math.abs(radius * radius + other.radius * other.radius - apartSquared(other));
            int m = 2 * radius * other.radius;
            if (3 * n == 5 * m) {
                return 6;
            }
            if (n == 3 * m) {
                return 4;
            }
            return n == 7 * m ? 3 : 0;
        }

        /** What is added to r in the equation of this ROUND: RADIUS with bit 1, less RADIUS with bit 0. */
        int shift(boolean bit) {
            return bit ? radius : -radius;
        }

        /** What stands ahead of r in the equation of this STRAIGHT, x and y being on the same side. */
        int slope(boolean bit) {
            return bit ? l : -l;
        }
    }

    /** All that an image keeps: SHAPES, THE THREE, z. */
    private static final class Scene {
        final Shape[] shapes = new Shape[MOST_SHAPES];
        int size;
        final int[] three = {0, 1, 2};
        int z = 1;
        /** Whether ANSWERS found earlier may no longer be those of THE THREE. */
        boolean changed = true;

        Scene() {
            for (int i = 0; i < MOST_SHAPES; i++) {
                shapes[i] = new Shape();
            }
        }

        boolean has(int i) {
            return i >= 0 && i < size;
        }

        void become(Scene other) {
            for (int i = 0; i < MOST_SHAPES; i++) {
                shapes[i].become(other.shapes[i]);
            }
            size = other.size;
            choose(other.three[0], other.three[1], other.three[2]);
            z = other.z;
        }

        int addRound(int x, int y, int radius) {
            shapes[size].becomeRound(x, y, radius);
            return grow();
        }

        int addStraight(int slant, int c) {
            shapes[size].becomeStraight(slant, c);
            return grow();
        }

        private int grow() {
            changed = true;
            size++;
            return size - 1;
        }

        int setMeasure(int i, int what, int v) {
            int was = shapes[i].measure(what);
            shapes[i].setMeasure(what, v);
            changed = true;
            return was;
        }

        int dropLast() {
            changed = true;
            size--;
            return size;
        }

        int takeOut(int kind) {
            int left = 0;
            int were = size;
            for (int i = 0; i < were; i++) {
                if (!shapes[i].isOf(kind)) {
                    exchange(left, i);
                    left++;
                }
            }
            changed = true;
            size = left;
            return were - left;
        }

        void exchange(int i, int j) {
            Shape moved = shapes[i];
            shapes[i] = shapes[j];
            shapes[j] = moved;
            changed = true;
        }

        int reverse() {
            for (int i = 0; i < size / 2; i++) {
                exchange(i, size - 1 - i);
            }
            return size;
        }

        int howMany(int kind) {
            int many = 0;
            for (int i = 0; i < size; i++) {
                if (shapes[i].isOf(kind)) {
                    many++;
                }
            }
            return many;
        }

        void choose(int i, int j, int k) {
            three[0] = i;
            three[1] = j;
            three[2] = k;
            changed = true;
        }

        boolean hasThree() {
            return has(three[0]) && has(three[1]) && has(three[2]);
        }

        Shape given(int n) {
            return shapes[three[n]];
        }

        int drawThree() {
            int sets = size * (size - 1) * (size - 2) / 6;
            z = z * 1103515245 + 12345;
            int drawn = sets > 0 ? (z >>> 8) % sets : 0;
            chooseSet(drawn);
            return drawn;
        }

        private void chooseSet(int number) {
            int seen = 0;
            for (int i = 0; i < size; i++) {
                for (int j = i + 1; j < size; j++) {
                    for (int k = j + 1; k < size; k++) {
                        if (seen == number) {
                            choose(i, j, k);
                        }
                        seen++;
                    }
                }
            }
        }
    }

    /** A SHEET; its numbers stand as longs, made narrow when they come. */
    private static final class Sheet {
        int sort = NO_SORT;
        int size;
        final long[] items = new long[MOST_ITEMS];

        void become(int newSort, int newSize) {
            sort = newSort;
            size = newSize;
            for (int i = 0; i < MOST_ITEMS; i++) {
                items[i] = 0;
            }
        }

        boolean isMissing() {
            return sort == NO_SORT;
        }

        boolean hasRow(int from, int many) {
            return from >= 0 && many >= 0 && from <= size && many <= size - from;
        }

        private long narrow(long v) {
            return sort == 0 ? (byte) v : sort == 1 ? (int) v : v;
        }

        void set(int i, long v) {
            items[i] = narrow(v);
        }

        boolean mayHold(long[] row) {
            for (int i = 0; i < row.length; i++) {
                if (narrow(row[i]) != row[i]) {
                    return false;
                }
            }
            return true;
        }

        boolean isFormZero() {
            for (int i = 0; i < FORM; i++) {
                if (items[i] != 0) {
                    return false;
                }
            }
            return true;
        }
    }

    /** A NUMBER in lowest terms, or nothing. */
    private static final class Num {
        private static final int MOST_SQUARES = 64;

        boolean held;
        /** p, q, m: these three are brought to lowest terms together. */
        private final long[] terms = {0, 0, 1};
        long d;

        long p() {
            return terms[0];
        }

        long q() {
            return terms[1];
        }

        long m() {
            return terms[2];
        }

        void become(Num other) {
            held = other.held;
            terms[0] = other.terms[0];
            terms[1] = other.terms[1];
            terms[2] = other.terms[2];
            d = other.d;
        }

        /** Holds (p + q times the root of newD) by m; false if in lowest terms that isn't of longs, or m is 0. */
        boolean hold(long p, long q, long newD, long m) {
            terms[0] = p;
            terms[1] = q;
            terms[2] = m;
            held = Worker.lower(terms, 2);
            d = terms[1] == 0 ? 0 : newD;
            return held;
        }

        /** Holds the root of n (not below 0). */
        void holdRoot(long n) {
            if (n <= 0) {
                hold(0, 0, 0, 1);
                return;
            }
            long side = 1;
            long free = 1;
            long left = n;
            // When no divisor up to the third root is left, what is left has two prime divisors at most.
            for (long prime = 2; prime * prime * prime <= left; prime++) {
                long square = prime * prime;
                for (int i = 0; i < MOST_SQUARES && left % square == 0; i++) {
                    left /= square;
                    side *= prime;
                }
                if (left % prime == 0) {
                    left /= prime;
                    free *= prime;
                }
            }
            long last = floorOfRoot(left);
            if (last * last == left) {
                side *= last;
            } else {
                free *= left;
            }
            hold(free == 1 ? side : 0, free == 1 ? 0 : side, free, 1);
        }

        private static long floorOfRoot(long n) {
            long floor = 0;
            for (long bit = 1L << 30; bit > 0; bit >>= 1) {
                if ((floor + bit) * (floor + bit) <= n) {
                    floor += bit;
                }
            }
            return floor;
        }

        boolean isOf(int kind) {
            switch (kind) {
                case NUMBER:
                    return true;
                case ROOT:
                    return q() != 0;
                case RATIO:
                    return q() == 0;
                default:
                    return q() == 0 && m() == 1;
            }
        }

        long part(int what) {
            switch (what) {
                case 0:
                    return p();
                case 1:
                    return q();
                case 2:
                    return d;
                default:
                    return m();
            }
        }
    }

    /** Works with longs and keeps in mind whether one on the way was none. */
    private static final class Worker {
        private static final long LEAST = 1L << 63;
        private static final int MOST_STEPS = 200;

        private boolean over;
        final Num outcome = new Num();
        final long[] form = new long[FORM];
        private final long[] line = new long[3];

        private long times(long a, long b) {
            long product = a * b;
            if (a != 0 && (product / a != b || a == -1 && b == LEAST)) {
                over = true;
            }
            return product;
        }

        private long plus(long a, long b) {
            long sum = a + b;
            if (((a ^ sum) & (b ^ sum)) < 0) {
                over = true;
            }
            return sum;
        }

        private long minus(long a, long b) {
            long difference = a - b;
            if (((a ^ b) & (a ^ difference)) < 0) {
                over = true;
            }
            return difference;
        }

        /**
         * Divides a row by the greatest common divisor of all, so that number lead of it is above 0;
         * false, and nothing done, if that one is 0 or one would be no long.
         */
        static boolean lower(long[] row, int lead) {
            if (lead < 0 || lead >= row.length || row[lead] == 0) {
                return false;
            }
            long shared = 0;
            for (int i = 0; i < row.length; i++) {
                shared = negativeDivisor(shared, row[i]);
            }
            long divisor = row[lead] < 0 ? shared : -shared;
            for (int i = 0; i < row.length; i++) {
                if (divisor == 0 || divisor == -1 && row[i] == LEAST) {
                    return false;
                }
            }
            for (int i = 0; i < row.length; i++) {
                row[i] /= divisor;
            }
            return true;
        }

        /** The greatest common divisor with a minus, since the least long has no twin above 0. */
        private static long negativeDivisor(long notAboveZero, long b) {
            long x = notAboveZero;
            long y = b > 0 ? -b : b;
            for (int i = 0; i < MOST_STEPS && y != 0; i++) {
                long rest = x % y;
                x = y;
                y = rest;
            }
            return x;
        }

        boolean workOut(Num s, Num t, int what) {
            over = false;
            switch (what) {
                case 0:
                    return addUp(s, t);
                case 1:
                    return takeOff(s, t);
                case 2:
                    return multiply(s, t);
                default:
                    return divide(s, t);
            }
        }

        private boolean conclude(long p, long q, long d, long m) {
            return !over && outcome.hold(p, q, d, m);
        }

        private static long rootOfBoth(Num s, Num t) {
            return s.d != 0 ? s.d : t.d;
        }

        private boolean addUp(Num s, Num t) {
            long p = plus(times(s.p(), t.m()), times(t.p(), s.m()));
            long q = plus(times(s.q(), t.m()), times(t.q(), s.m()));
            return conclude(p, q, rootOfBoth(s, t), times(s.m(), t.m()));
        }

        private boolean takeOff(Num s, Num t) {
            long p = minus(times(s.p(), t.m()), times(t.p(), s.m()));
            long q = minus(times(s.q(), t.m()), times(t.q(), s.m()));
            return conclude(p, q, rootOfBoth(s, t), times(s.m(), t.m()));
        }

        private boolean multiply(Num s, Num t) {
            long d = rootOfBoth(s, t);
            long p = plus(times(s.p(), t.p()), times(times(s.q(), t.q()), d));
            long q = plus(times(s.p(), t.q()), times(s.q(), t.p()));
            return conclude(p, q, d, times(s.m(), t.m()));
        }

        private boolean divide(Num s, Num t) {
            long d = rootOfBoth(s, t);
            long p = times(minus(times(s.p(), t.p()), times(times(s.q(), t.q()), d)), t.m());
            long q = times(minus(times(s.q(), t.p()), times(s.p(), t.q())), t.m());
            long norm = minus(times(t.p(), t.p()), times(times(t.q(), t.q()), d));
            return conclude(p, q, d, times(s.m(), norm));
        }

        /** Number what of u, v, w: u x + v y = w where two ROUNDS of unlike centres have like POWERS. */
        int equalPowers(Shape first, Shape second, int what) {
            line[0] = first.formNumber(1) - second.formNumber(1);
            line[1] = first.formNumber(2) - second.formNumber(2);
            line[2] = second.formNumber(3) - first.formNumber(3);
            lower(line, line[0] != 0 ? 0 : 1);
            return what >= 0 && what < line.length ? (int) line[what] : 0;
        }

        /** Turns the FORM that a row begins with inside out, into form; false if a number on the way is no long. */
        boolean turnInsideOut(long[] row, int u, int v, int k) {
            if (row.length < FORM) {
                return false;
            }
            over = false;
            long a = row[0];
            long far = (long) u * u + (long) v * v;
            long e = plus(row[1], times(times(2, a), u));
            long f = plus(row[2], times(times(2, a), v));
            long g = plus(plus(plus(times(a, far), times(row[1], u)), times(row[2], v)), row[3]);
            form[0] = g;
            form[1] = minus(times(k, e), times(times(2, g), u));
            form[2] = minus(times(k, f), times(times(2, g), v));
            long less = minus(times(g, far), times(times(k, e), u));
            form[3] = plus(minus(less, times(times(k, f), v)), times((long) k * k, a));
            return !over && lower(form, firstNotZero(form));
        }

        private static int firstNotZero(long[] row) {
            for (int i = 0; i < row.length; i++) {
                if (row[i] != 0) {
                    return i;
                }
            }
            return -1;
        }
    }

    /** A whole number wider than a long: 768 bits, while compare needs less than 640. */
    private static final class Big {
        private static final int LIMBS = 24;
        private static final long MASK = 0xFFFFFFFFL;

        int sign;
        private int used;
        private final int[] limbs = new int[LIMBS];

        private long limb(int i) {
            return i >= 0 && i < used ? limbs[i] & MASK : 0;
        }

        private void trim(int top) {
            used = top;
            while (used > 0 && limbs[used - 1] == 0) {
                used--;
            }
            if (used == 0) {
                sign = 0;
            }
        }

        void take(long v) {
            // Less the least long is that one again: as bits without a sign, what is wanted.
            long bits = v < 0 ? -v : v;
            limbs[0] = (int) bits;
            limbs[1] = (int) (bits >>> 32);
            sign = v < 0 ? -1 : 1;
            trim(2);
        }

        /** Takes a times b, neither of which is this one. */
        void takeProduct(Big a, Big b) {
            int top = Math.min(a.used + b.used, LIMBS);
            for (int i = 0; i < top; i++) {
                limbs[i] = 0;
            }
            for (int i = 0; i < a.used; i++) {
                long carry = 0;
                for (int j = 0; j <= b.used && i + j < top; j++) {
                    carry += a.limb(i) * b.limb(j) + (limbs[i + j] & MASK);
                    limbs[i + j] = (int) carry;
                    carry >>>= 32;
                }
            }
            sign = a.sign * b.sign;
            trim(top);
        }

        /** Takes a and side (1 or -1) times b; this one may be a or b. */
        void takeSum(Big a, int side, Big b) {
            int signOfA = a.sign;
            int signOfB = side * b.sign;
            if (signOfA * signOfB >= 0) {
                sign = signOfA != 0 ? signOfA : signOfB;
                addLimbs(a, b);
            } else if (a.sizeAgainst(b) >= 0) {
                sign = signOfA;
                subtractLimbs(a, b);
            } else {
                sign = signOfB;
                subtractLimbs(b, a);
            }
        }

        private void addLimbs(Big a, Big b) {
            int top = Math.min(Math.max(a.used, b.used) + 1, LIMBS);
            long carry = 0;
            for (int i = 0; i < top; i++) {
                carry += a.limb(i) + b.limb(i);
                limbs[i] = (int) carry;
                carry >>>= 32;
            }
            trim(top);
        }

        private void subtractLimbs(Big larger, Big smaller) {
            int top = larger.used;
            long borrow = 0;
            for (int i = 0; i < top; i++) {
                long gap = larger.limb(i) - smaller.limb(i) - borrow;
                limbs[i] = (int) gap;
                borrow = gap < 0 ? 1 : 0;
            }
            trim(top);
        }

        /** Which is greater without its sign: -1, 0, 1. */
        int sizeAgainst(Big other) {
            for (int i = Math.max(used, other.used) - 1; i >= 0; i--) {
                int order = Long.compare(limb(i), other.limb(i));
                if (order != 0) {
                    return order;
                }
            }
            return 0;
        }
    }

    /** Tells which of two NUMBERS is greater, exactly, whatever longs they are of. */
    private static final class Judge {
        private final Num zero = new Num();
        private final Big whole = new Big();
        private final Big first = new Big();
        private final Big second = new Big();
        private final Big firstSquare = new Big();
        private final Big secondSquare = new Big();
        private final Big gap = new Big();
        private final Big one = new Big();
        private final Big other = new Big();
        private final Big spare = new Big();

        int sign(Num num) {
            return order(num, zero);
        }

        /** The sign of s less t, as that of whole + first times a root + second times another root. */
        int order(Num s, Num t) {
            takeProduct(first, s.p(), t.m());
            takeProduct(second, t.p(), s.m());
            whole.takeSum(first, -1, second);
            takeProduct(first, s.q(), t.m());
            takeProduct(second, t.q(), s.m());
            second.sign = -second.sign;
            takeSquare(firstSquare, first, s.d);
            takeSquare(secondSquare, second, t.d);
            int roots = signOfRoots();
            if (whole.sign == 0 || roots == 0 || whole.sign == roots) {
                return whole.sign != 0 ? whole.sign : roots;
            }
            return whole.sign * wholeAgainstRoots();
        }

        private void takeProduct(Big product, long a, long b) {
            one.take(a);
            other.take(b);
            product.takeProduct(one, other);
        }

        private void takeSquare(Big square, Big factor, long d) {
            one.takeProduct(factor, factor);
            other.take(d);
            square.takeProduct(one, other);
        }

        private int signOfRoots() {
            if (first.sign * second.sign >= 0) {
                return first.sign != 0 ? first.sign : second.sign;
            }
            return first.sign * firstSquare.sizeAgainst(secondSquare);
        }

        /**
         * Which is greater without its sign: -1, 0, 1. Squared, both roots are their squares' sum and
         * twice their product; what whole's square has beyond that sum stands against this product.
         */
        private int wholeAgainstRoots() {
            one.takeProduct(whole, whole);
            gap.takeSum(one, -1, firstSquare);
            gap.takeSum(gap, -1, secondSquare);
            int product = first.sign * second.sign;
            if (gap.sign != product) {
                return Integer.compare(gap.sign, product);
            }
            one.takeProduct(gap, gap);
            other.takeProduct(firstSquare, secondSquare);
            other.takeSum(other, 1, other);
            other.takeSum(other, 1, other);
            return product * one.sizeAgainst(other);
        }

        /** What the FORM that a row begins with is: ROUND, POINT, STRAIGHT, or 0. */
        int kindOfForm(long[] row) {
            if (row.length < FORM) {
                return 0;
            }
            if (row[0] == 0) {
                return row[1] != 0 || row[2] != 0 ? STRAIGHT : 0;
            }
            takeProduct(first, row[1], row[1]);
            takeProduct(second, row[2], row[2]);
            whole.takeSum(first, 1, second);
            takeProduct(spare, row[0], row[3]);
            spare.takeSum(spare, 1, spare);
            spare.takeSum(spare, 1, spare);
            gap.takeSum(whole, -1, spare);
            if (gap.sign == 0) {
                return POINT;
            }
            return gap.sign > 0 ? ROUND : 0;
        }
    }

    /** Three numbers: those of a place x, y, r, or those that stand ahead of them in an equation. */
    private static final class Vector {
        long x;
        long y;
        long z;
        /** Of an equation: twice what it comes to, as a ROUND's may come to a half. */
        long twice;

        void set(long newX, long newY, long newZ) {
            x = newX;
            y = newY;
            z = newZ;
        }

        /** Takes what is square to a and to b, neither of which is this one. */
        void takeCross(Vector a, Vector b) {
            set(a.y * b.z - a.z * b.y, a.z * b.x - a.x * b.z, a.x * b.y - a.y * b.x);
        }

        void add(long factor, Vector a) {
            x += factor * a.x;
            y += factor * a.y;
            z += factor * a.z;
        }

        /** Adds factor times a, its last number with the other sign. */
        void addBent(long factor, Vector a) {
            x += factor * a.x;
            y += factor * a.y;
            z -= factor * a.z;
        }

        long straightProduct(Vector a) {
            return x * a.x + y * a.y + z * a.z;
        }

        /** The product in which the last number counts with a minus: of a place on the cone with itself it is 0. */
        long bentProduct(Vector a) {
            return x * a.x + y * a.y - z * a.z;
        }

        boolean isZero() {
            return x == 0 && y == 0 && z == 0;
        }
    }

    /** An ANSWER: (whole + rooted times the root of d) by m, for x, y and r (as z); and as NUMBERS. */
    private static final class Circle {
        int signs;
        private final long[] row = new long[7];
        private long d;
        final Num x = new Num();
        final Num y = new Num();
        final Num r = new Num();

        /** Becomes the circle at whole and rooted by m (not 0), moved by a base. */
        void become(Vector whole, Vector rooted, long newD, long m, Vector base) {
            row[0] = whole.x + base.x * m;
            row[1] = whole.y + base.y * m;
            row[2] = whole.z + base.z * m;
            row[3] = rooted.x;
            row[4] = rooted.y;
            row[5] = rooted.z;
            row[6] = m;
            d = newD;
            Worker.lower(row, 6);
            x.hold(row[0], row[3], d, row[6]);
            y.hold(row[1], row[4], d, row[6]);
            r.hold(row[2], row[5], d, row[6]);
        }

        /** Whether r is above 0: t times its size is the greater, the greater t is. */
        boolean hasRadius() {
            return row[2] * Math.abs(row[2]) + row[5] * Math.abs(row[5]) * d > 0;
        }

        Num part(int which) {
            return which == 0 ? x : which == 1 ? y : r;
        }

        int touch(Shape shape) {
            if (touchesWith(shape, false)) {
                return 1;
            }
            boolean mayOutside = shape.lowestKind() != POINT;
            return mayOutside && touchesWith(shape, true) ? 2 : 0;
        }

        private boolean touchesWith(Shape shape, boolean bit) {
            return shape.straight ? touchesStraight(shape, bit) : touchesRound(shape, shape.shift(bit));
        }

        private boolean touchesStraight(Shape shape, boolean bit) {
            long slope = shape.slope(bit);
            long whole = shape.a * row[0] + shape.b * row[1] + slope * row[2] - shape.c * row[6];
            long rooted = shape.a * row[3] + shape.b * row[4] + slope * row[5];
            return whole == 0 && rooted == 0;
        }

        private boolean touchesRound(Shape shape, long shift) {
            long dx = row[0] - shape.x * row[6];
            long dy = row[1] - shape.y * row[6];
            long dz = row[2] + shift * row[6];
            long bent = row[3] * row[3] + row[4] * row[4] - row[5] * row[5];
            long whole = dx * dx + dy * dy - dz * dz + d * bent;
            long rooted = dx * row[3] + dy * row[4] - dz * row[5];
            return whole == 0 && rooted == 0;
        }
    }

    /**
     * Finds ANSWERS. The first ROUND's equation is that of a cone about its base; those of the first
     * degree are planes, which cross in a line: ANSWERS are where this line meets the cone.
     */
    private static final class Finder {
        private final Judge judge = new Judge();
        final Circle[] circles = new Circle[MOST_ANSWERS];
        int size;
        int loose;
        int answered;
        private final Vector base = new Vector();
        private final Vector[] planes = new Vector[3];
        private final Vector along = new Vector();
        private final Vector cross = new Vector();
        private final Vector start = new Vector();
        private final Vector whole = new Vector();
        private final Vector rooted = new Vector();
        /** ANSWERS are at start and the root of square times along, on either side of it, by m: none if square is below 0. */
        private long square;
        private long m;
        private final Num root = new Num();

        Finder() {
            for (int i = 0; i < MOST_ANSWERS; i++) {
                circles[i] = new Circle();
            }
            for (int i = 0; i < planes.length; i++) {
                planes[i] = new Vector();
            }
        }

        void forget() {
            size = 0;
            loose = 0;
            answered = 0;
        }

        private static boolean hasBit(int signs, int n) {
            return (signs >> n & 1) == 1;
        }

        private static boolean doCount(Scene scene, int signs) {
            for (int n = 0; n < 3; n++) {
                if (hasBit(signs, n) && scene.given(n).lowestKind() == POINT) {
                    return false;
                }
            }
            return true;
        }

        /** Finds ANSWERS by SIGNS, of a scene that has THE THREE. */
        void findBy(Scene scene, int signs) {
            if (!doCount(scene, signs)) {
                return;
            }
            boolean isLoose = layPlanes(scene, signs) ? meetCone() : meetPlanes();
            if (isLoose) {
                loose |= 1 << signs;
                return;
            }
            root.holdRoot(square);
            int meetings = Long.compare(square, 0) + 1;
            int side = lesserSide();
            for (int n = 0; n < meetings && size < MOST_ANSWERS; n++) {
                takePlace(side);
                circles[size].become(whole, rooted, root.d, m, base);
                circles[size].signs = signs;
                if (circles[size].hasRadius()) {
                    size++;
                    answered |= 1 << signs;
                }
                side = -side;
            }
        }

        /** Which side of start, along the line, has the lesser r, or of like r the lesser x, then the lesser y. */
        private int lesserSide() {
            long lead = along.z != 0 ? along.z : along.x != 0 ? along.x : along.y;
            return lead > 0 == m > 0 ? -1 : 1;
        }

        private void takePlace(int side) {
            whole.set(start.x, start.y, start.z);
            whole.add(side * root.p(), along);
            rooted.set(0, 0, 0);
            rooted.add(side * root.q(), along);
        }

        /** The first ANSWER of greatest r (side 1), or of least (side -1); 0 if there are none. */
        int utmost(int side) {
            int found = 0;
            for (int k = 1; k < size; k++) {
                if (side * judge.order(circles[k].r, circles[found].r) > 0) {
                    found = k;
                }
            }
            return found;
        }

        int howManyLess(Num r) {
            int less = 0;
            for (int k = 0; k < size; k++) {
                if (judge.order(circles[k].r, r) < 0) {
                    less++;
                }
            }
            return less;
        }

        /** Lays base and planes for SIGNS; whether there is a ROUND, so that there is a cone. */
        private boolean layPlanes(Scene scene, int signs) {
            int stays = firstRound(scene);
            base.set(0, 0, 0);
            if (stays >= 0) {
                Shape round = scene.given(stays);
                base.set(round.x, round.y, -round.shift(hasBit(signs, stays)));
            }
            int laid = 0;
            for (int n = 0; n < 3; n++) {
                if (n != stays) {
                    layPlane(planes[laid], scene.given(n), hasBit(signs, n));
                    laid++;
                }
            }
            return stays >= 0;
        }

        private static int firstRound(Scene scene) {
            for (int n = 0; n < 3; n++) {
                if (!scene.given(n).straight) {
                    return n;
                }
            }
            return -1;
        }

        private void layPlane(Vector plane, Shape shape, boolean bit) {
            if (shape.straight) {
                plane.set(shape.a, shape.b, shape.slope(bit));
                plane.twice = 2 * (shape.c - plane.straightProduct(base));
            } else {
                plane.set(shape.x - base.x, shape.y - base.y, shape.shift(bit) + base.z);
                plane.twice = plane.bentProduct(plane);
            }
        }

        /** Where three planes cross; whether SIGNS are LOOSE. */
        private boolean meetPlanes() {
            cross.takeCross(planes[1], planes[2]);
            long volume = planes[0].straightProduct(cross);
            if (volume == 0) {
                return true;
            }
            start.set(0, 0, 0);
            start.add(planes[0].twice, cross);
            cross.takeCross(planes[2], planes[0]);
            start.add(planes[1].twice, cross);
            cross.takeCross(planes[0], planes[1]);
            start.add(planes[2].twice, cross);
            square = 0;
            m = 2 * volume;
            return false;
        }

        /** Where the line in which two planes cross meets the cone; whether SIGNS are LOOSE. */
        private boolean meetCone() {
            along.takeCross(planes[0], planes[1]);
            if (along.isZero()) {
                return true;
            }
            if (along.bentProduct(along) == 0) {
                return followEdge();
            }
            pierceCone(planes[0], planes[1]);
            return false;
        }

        /** The line isn't as steep as the cone: it meets that twice, once or never. */
        private void pierceCone(Vector one, Vector two) {
            long oneOne = one.bentProduct(one);
            long oneTwo = one.bentProduct(two);
            long twoTwo = two.bentProduct(two);
            long byOne = oneTwo * two.twice - twoTwo * one.twice;
            long byTwo = oneTwo * one.twice - oneOne * two.twice;
            start.set(0, 0, 0);
            start.addBent(byOne, one);
            start.addBent(byTwo, two);
            square = -byOne * one.twice - byTwo * two.twice;
            m = 2 * along.bentProduct(along);
        }

        /** The line is as steep as the cone: it meets that once or never, or lies in it, which is LOOSE. */
        private boolean followEdge() {
            whole.set(0, 0, 0);
            cross.takeCross(planes[1], along);
            whole.add(planes[0].twice, cross);
            cross.takeCross(along, planes[0]);
            whole.add(planes[1].twice, cross);
            long lean = whole.bentProduct(along);
            long off = whole.bentProduct(whole);
            if (lean == 0) {
                square = -1;
                return off == 0;
            }
            start.set(0, 0, 0);
            start.add(2 * lean, whole);
            start.add(-off, along);
            square = 0;
            m = 4 * lean * along.straightProduct(along);
            return false;
        }
    }
}
