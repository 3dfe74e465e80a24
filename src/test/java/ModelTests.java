import java.math.BigDecimal;
import java.math.BigInteger;
import java.math.MathContext;
import java.math.RoundingMode;
import java.util.ArrayList;
import java.util.Arrays;
import java.util.HashMap;
import java.util.List;
import java.util.Map;
import java.util.Random;

/**
 * Runs of calls by lot, each answered by ThreeTouched and by a second reading of the document that is
 * written otherwise: fractions of BigIntegers, elimination, and decimals of 260 digits to compare.
 */
public final class ModelTests {
    private static final int CALLS = 512;
    private static final int RUNS = 300;
    private static final int TRIPLES = 4000;

    public static void main(String[] args) {
        int wrong = 0;
        int[] kinds = new int[9];
        for (int run = 0; run < RUNS && wrong < 10; run++) {
            wrong += oneRun(run, kinds);
        }
        for (int n = 0; n < TRIPLES && wrong < 10; n++) {
            wrong += oneTriple(new Random(n), n);
        }
        System.out.println(TRIPLES + " threes, " + RUNS + " runs of " + CALLS + " calls, answers " + kinds[8] + ", findings "
            + Arrays.toString(Arrays.copyOf(kinds, 8)) + ", " + wrong + " wrong");
        for (int kind : kinds) {
            if (kind < 100) {
                System.out.println("a finding is hardly ever met");
                wrong++;
            }
        }
        if (wrong != 0) {
            System.exit(1);
        }
    }

    /** All there is to tell of the ANSWERS of three SHAPES, which lie near one another every other time. */
    private static int oneTriple(Random lot, int n) {
        ThreeTouched x = new ThreeTouched();
        Model model = new Model();
        int span = n % 2 == 0 ? 5 : 2;
        StringBuilder told = new StringBuilder();
        for (int i = 0; i < 4; i++) {
            if (lot.nextInt(3) == 0) {
                int slant = lot.nextInt(6);
                int c = lot.nextInt(12 * span + 1) - 6 * span;
                told.append(" straight ").append(slant).append(' ').append(c);
                x.straight(slant, c);
                model.straight(slant, c);
            } else {
                int cx = lot.nextInt(2 * span + 1) - span;
                int cy = lot.nextInt(2 * span + 1) - span;
                int radius = lot.nextInt(span + 1);
                told.append(" round ").append(cx).append(' ').append(cy).append(' ').append(radius);
                x.round(cx, cy, radius);
                model.round(cx, cy, radius);
            }
        }
        boolean alike = true;
        for (int what = 0; what < 3; what++) {
            alike &= x.answers(what) == model.answers(what);
        }
        alike &= x.best(0) == model.best(0) && x.best(1) == model.best(1);
        for (int k = 0; k < model.answers(0); k++) {
            alike &= x.signs(k) == model.signs(k) && x.rank(k) == model.rank(k);
            for (int part = 0; part < 12; part++) {
                alike &= x.answer(k, part / 4, part % 4) == model.answer(k, part / 4, part % 4);
            }
            for (int i = 0; i < 4; i++) {
                alike &= x.touches(k, i) == model.touches(k, i);
            }
        }
        if (!alike) {
            System.out.println("unlike ANSWERS of" + told);
        }
        return alike ? 0 : 1;
    }

    private static int oneRun(int run, int[] kinds) {
        Random lot = new Random(run);
        Calls calls = new Calls(lot, run % 4);
        ThreeTouched x = new ThreeTouched();
        Model model = new Model();
        StringBuilder told = new StringBuilder();
        for (int n = 0; n < CALLS; n++) {
            calls.next();
            long got = calls.ask(x);
            long want = calls.ask(model);
            told.append(calls.text()).append(" = ").append(got).append('\n');
            int finding = model.lastFinding;
            kinds[finding < 0 ? 8 : finding]++;
            if (got != want) {
                System.out.println("run " + run + ", due is " + want + " at the end of\n" + told);
                return 1;
            }
        }
        return 0;
    }
}

/** Draws a call and its numbers, and asks it of either. */
final class Calls {
    private static final String[] NAMES = {
        "round", "straight", "of", "change", "as", "drop", "prune", "swap", "turn", "lie", "power", "radical", "ring",
        "three", "ofThree", "draw", "answers", "signs", "answer", "best", "rank", "touches", "lays", "invert", "tell",
        "put", "ratio", "root", "work", "compare", "number", "taken", "clear", "sheet", "write", "item", "copy",
        "image", "back", "seed", "count", "status",
    };
    // one row a flavour: shapes and answers, numbers, sheets, all
    private static final int[][] WEIGHTS = {
        {9, 6, 3, 6, 2, 1, 1, 2, 1, 4, 2, 4, 3, 2, 1, 3, 6, 3, 40, 3, 6, 12, 0, 0, 0, 1, 0, 0, 0, 1, 1, 1, 0, 0, 0, 0, 0, 1, 1, 1, 1, 1},
        {6, 3, 0, 2, 0, 1, 0, 0, 0, 0, 0, 0, 0, 0, 0, 2, 1, 0, 0, 0, 0, 0, 0, 0, 0, 12, 6, 8, 40, 20, 12, 8, 1, 0, 0, 0, 0, 0, 0, 0, 1, 1},
        {3, 3, 0, 2, 0, 1, 0, 0, 0, 0, 0, 0, 0, 0, 0, 0, 0, 0, 0, 0, 0, 0, 8, 20, 12, 0, 0, 0, 0, 0, 0, 0, 0, 4, 20, 30, 6, 0, 0, 0, 1, 1},
        {6, 4, 2, 2, 2, 2, 1, 2, 2, 2, 2, 2, 2, 2, 2, 2, 2, 2, 2, 2, 2, 2, 2, 2, 2, 2, 2, 2, 2, 2, 2, 2, 2, 2, 2, 2, 2, 2, 2, 2, 2, 2},
    };

    private final Random lot;
    private final int[] weights;
    private final int all;
    private int call;
    private final long[] v = new long[5];
    private int given;

    Calls(Random lot, int flavour) {
        this.lot = lot;
        weights = WEIGHTS[flavour];
        all = Arrays.stream(weights).sum();
    }

    private int within(int least, int most) {
        int chance = lot.nextInt(200);
        if (chance == 0) {
            return lot.nextBoolean() ? least - 1 : most + 1;
        }
        if (chance == 1) {
            int[] far = {Integer.MIN_VALUE, Integer.MAX_VALUE, -1, 0, 1000};
            return far[lot.nextInt(far.length)];
        }
        return least + lot.nextInt(most - least + 1);
    }

    private long anyLong() {
        switch (lot.nextInt(6)) {
            case 0:
                return lot.nextInt(11) - 5;
            case 1:
                return lot.nextLong();
            case 2:
                return Long.MIN_VALUE >> lot.nextInt(64);
            case 3:
                return Long.MAX_VALUE >> lot.nextInt(64);
            case 4:
                return lot.nextInt(401) - 200;
            default:
                return lot.nextLong() >> lot.nextInt(64);
        }
    }

    private void set(long... values) {
        given = values.length;
        System.arraycopy(values, 0, v, 0, given);
    }

    private int shape() {
        return within(0, 5);
    }

    private int k() {
        return within(0, lot.nextInt(4) == 0 ? 8 : 3);
    }

    void next() {
        int drawn = lot.nextInt(all);
        call = 0;
        while (drawn >= weights[call]) {
            drawn -= weights[call];
            call++;
        }
        fill(NAMES[call]);
    }

    private void fill(String name) {
        int span = lot.nextInt(3) == 0 ? 1 : 5;
        switch (name) {
            case "round": set(within(-span, span), within(-span, span), lot.nextInt(3) == 0 ? 0 : within(0, span)); break;
            case "straight": set(within(0, 5), lot.nextBoolean() ? within(-30, 30) : within(-5, 5)); break;
            case "of": set(shape(), within(0, 9)); break;
            case "change": set(shape(), within(1, 5), lot.nextInt(4) == 0 ? within(-30, 30) : within(0, 5)); break;
            case "as": set(shape(), within(0, 4)); break;
            case "prune": set(within(0, 4)); break;
            case "swap": case "lie": case "ring": set(shape(), shape()); break;
            case "power": set(shape(), within(-99, 99), within(-99, 99)); break;
            case "radical": set(shape(), shape(), within(0, 2)); break;
            case "three": set(shape(), shape(), shape()); break;
            case "ofThree": case "answers": set(within(0, 2)); break;
            case "signs": case "rank": set(k()); break;
            case "answer": set(k(), within(0, 2), within(0, 3)); break;
            case "best": set(within(0, 1)); break;
            case "touches": set(k(), shape()); break;
            case "lays": set(within(0, 3), shape()); break;
            case "invert": set(within(0, 3), within(-9, 9), within(-9, 9), within(1, 99)); break;
            case "tell": set(within(0, 3)); break;
            case "put": set(within(0, 5), k(), within(0, 2)); break;
            case "ratio": set(within(0, 5), ratioPart(), ratioPart()); break;
            case "root": set(within(0, 5), lot.nextBoolean() ? within(0, 20) : within(0, 1000000)); break;
            case "work": set(within(0, 5), within(0, 5), within(0, 5), within(0, 3)); break;
            case "compare": set(within(0, 5), within(0, 5)); break;
            case "number": case "taken": set(within(0, 5), within(0, 3)); break;
            case "clear": set(within(0, 5)); break;
            case "sheet": set(within(0, 3), within(-1, 2), lot.nextBoolean() ? within(0, 40) : within(3, 6)); break;
            case "write": set(within(0, 3), within(0, 5), anyLong()); break;
            case "item": set(within(0, 3), within(0, 5)); break;
            case "copy": set(within(0, 3), within(0, 5), within(0, 3), within(0, 5), within(0, 6)); break;
            case "seed": set(lot.nextInt()); break;
            case "count": set(within(0, 5)); break;
            case "status": set(within(-1, 7)); break;
            default: set(); break;
        }
    }

    private int ratioPart() {
        return lot.nextInt(3) == 0 ? within(-1000000, 1000000) : within(-12, 12);
    }

    String text() {
        StringBuilder text = new StringBuilder(NAMES[call]).append('(');
        for (int i = 0; i < given; i++) {
            text.append(i == 0 ? "" : ", ").append(v[i]);
        }
        return text.append(')').toString();
    }

    private int i(int n) {
        return (int) v[n];
    }

    long ask(ThreeTouched x) {
        switch (NAMES[call]) {
            case "round": return x.round(i(0), i(1), i(2));
            case "straight": return x.straight(i(0), i(1));
            case "of": return x.of(i(0), i(1));
            case "change": return x.change(i(0), i(1), i(2));
            case "as": return x.as(i(0), i(1));
            case "drop": return x.drop();
            case "prune": return x.prune(i(0));
            case "swap": return x.swap(i(0), i(1));
            case "turn": return x.turn();
            case "lie": return x.lie(i(0), i(1));
            case "power": return x.power(i(0), i(1), i(2));
            case "radical": return x.radical(i(0), i(1), i(2));
            case "ring": return x.ring(i(0), i(1));
            case "three": return x.three(i(0), i(1), i(2));
            case "ofThree": return x.ofThree(i(0));
            case "draw": return x.draw();
            case "answers": return x.answers(i(0));
            case "signs": return x.signs(i(0));
            case "answer": return x.answer(i(0), i(1), i(2));
            case "best": return x.best(i(0));
            case "rank": return x.rank(i(0));
            case "touches": return x.touches(i(0), i(1));
            case "lays": return x.lays(i(0), i(1));
            case "invert": return x.invert(i(0), i(1), i(2), i(3));
            case "tell": return x.tell(i(0));
            case "put": return x.put(i(0), i(1), i(2));
            case "ratio": return x.ratio(i(0), i(1), i(2));
            case "root": return x.root(i(0), i(1));
            case "work": return x.work(i(0), i(1), i(2), i(3));
            case "compare": return x.compare(i(0), i(1));
            case "number": return x.number(i(0), i(1));
            case "taken": return x.taken(i(0), i(1));
            case "clear": return x.clear(i(0));
            case "sheet": return x.sheet(i(0), i(1), i(2));
            case "write": return x.write(i(0), i(1), v[2]);
            case "item": return x.item(i(0), i(1));
            case "copy": return x.copy(i(0), i(1), i(2), i(3), i(4));
            case "image": return x.image();
            case "back": return x.back();
            case "seed": return x.seed(i(0));
            case "count": return x.count(i(0));
            default: return x.status(i(0));
        }
    }

    long ask(Model x) {
        x.lastFinding = -1;
        switch (NAMES[call]) {
            case "round": return x.round(i(0), i(1), i(2));
            case "straight": return x.straight(i(0), i(1));
            case "of": return x.of(i(0), i(1));
            case "change": return x.change(i(0), i(1), i(2));
            case "as": return x.as(i(0), i(1));
            case "drop": return x.drop();
            case "prune": return x.prune(i(0));
            case "swap": return x.swap(i(0), i(1));
            case "turn": return x.turn();
            case "lie": return x.lie(i(0), i(1));
            case "power": return x.power(i(0), i(1), i(2));
            case "radical": return x.radical(i(0), i(1), i(2));
            case "ring": return x.ring(i(0), i(1));
            case "three": return x.three(i(0), i(1), i(2));
            case "ofThree": return x.ofThree(i(0));
            case "draw": return x.draw();
            case "answers": return x.answers(i(0));
            case "signs": return x.signs(i(0));
            case "answer": return x.answer(i(0), i(1), i(2));
            case "best": return x.best(i(0));
            case "rank": return x.rank(i(0));
            case "touches": return x.touches(i(0), i(1));
            case "lays": return x.lays(i(0), i(1));
            case "invert": return x.invert(i(0), i(1), i(2), i(3));
            case "tell": return x.tell(i(0));
            case "put": return x.put(i(0), i(1), i(2));
            case "ratio": return x.ratio(i(0), i(1), i(2));
            case "root": return x.root(i(0), i(1));
            case "work": return x.work(i(0), i(1), i(2), i(3));
            case "compare": return x.compare(i(0), i(1));
            case "number": return x.number(i(0), i(1));
            case "taken": return x.taken(i(0), i(1));
            case "clear": return x.clear(i(0));
            case "sheet": return x.sheet(i(0), i(1), i(2));
            case "write": return x.write(i(0), i(1), v[2]);
            case "item": return x.item(i(0), i(1));
            case "copy": return x.copy(i(0), i(1), i(2), i(3), i(4));
            case "image": return x.image();
            case "back": return x.back();
            case "seed": return x.seed(i(0));
            case "count": return x.count(i(0));
            default: return x.status(i(0));
        }
    }
}

/** A fraction of whole numbers of any length. */
record Frac(BigInteger up, BigInteger down) {
    static final Frac ZERO = of(0);

    static Frac of(long v) {
        return new Frac(BigInteger.valueOf(v), BigInteger.ONE);
    }

    static Frac by(BigInteger up, BigInteger down) {
        BigInteger g = up.gcd(down);
        BigInteger s = down.signum() < 0 ? g.negate() : g;
        return new Frac(up.divide(s), down.divide(s));
    }

    Frac plus(Frac o) {
        return by(up.multiply(o.down).add(o.up.multiply(down)), down.multiply(o.down));
    }

    Frac minus(Frac o) {
        return plus(o.times(of(-1)));
    }

    Frac times(Frac o) {
        return by(up.multiply(o.up), down.multiply(o.down));
    }

    Frac over(Frac o) {
        return by(up.multiply(o.down), down.multiply(o.up));
    }

    int sign() {
        return up.signum();
    }
}

/** A NUMBER: a + b times the root of d; d without squares, 0 if b is 0. */
record Root(Frac a, Frac b, long d) {
    private static final MathContext DIGITS = new MathContext(260, RoundingMode.HALF_EVEN);
    private static final Map<Long, BigDecimal> ROOTS = new HashMap<>();

    /** a + b times the root of a fraction (not below 0). */
    static Root of(Frac a, Frac b, Frac square) {
        BigInteger n = square.up().multiply(square.down());
        if (b.sign() == 0 || n.signum() == 0) {
            return new Root(a, Frac.ZERO, 0);
        }
        long rest = n.longValueExact();
        long side = 1;
        for (long f = 2; f * f <= rest; f++) {
            while (rest % (f * f) == 0) {
                rest /= f * f;
                side *= f;
            }
        }
        Frac factor = b.times(Frac.by(BigInteger.valueOf(side), square.down()));
        return rest == 1 ? new Root(a.plus(factor), Frac.ZERO, 0) : new Root(a, factor, rest);
    }

    static Root of(Frac a) {
        return new Root(a, Frac.ZERO, 0);
    }

    BigInteger m() {
        return a.down().multiply(b.down()).divide(a.down().gcd(b.down()));
    }

    BigInteger part(int what) {
        switch (what) {
            case 0: return a.up().multiply(m()).divide(a.down());
            case 1: return b.up().multiply(m()).divide(b.down());
            case 2: return BigInteger.valueOf(d);
            default: return m();
        }
    }

    private BigDecimal decimal() {
        BigDecimal whole = new BigDecimal(a.up()).divide(new BigDecimal(a.down()), DIGITS);
        if (d == 0) {
            return whole;
        }
        BigDecimal factor = new BigDecimal(b.up()).divide(new BigDecimal(b.down()), DIGITS);
        return whole.add(factor.multiply(ROOTS.computeIfAbsent(d, n -> BigDecimal.valueOf(n).sqrt(DIGITS)), DIGITS), DIGITS);
    }

    /** In lowest terms a NUMBER is told in one way only, so that unlike ones differ. */
    int order(Root o) {
        return equals(o) ? 0 : decimal().compareTo(o.decimal());
    }

    int sign() {
        return order(of(Frac.ZERO));
    }

    Root plus(Frac o) {
        return new Root(a.plus(o), b, d);
    }
}

/** What the document says, plainly. */
final class Model {
    private static final int[][] SLANTS = {{1, 0, 1}, {0, 1, 1}, {3, 4, 5}, {4, 3, 5}, {3, -4, 5}, {4, -3, 5}};
    private static final int BEYOND = 0, FULL = 1, KIND = 2, NONE = 3, STATE = 4, MISSING = 5, SIZE = 6, OVER = 7;

    /** kind 1: x, y, RADIUS; kind 2: SLANT, c. */
    private record Shape(boolean round, int p, int q, int r) {
        int kind() {
            return round ? (r == 0 ? 3 : 1) : (p < 2 ? 4 : 2);
        }

        boolean is(int kind) {
            return kind == 0 || kind == kind() || kind == (round ? 1 : 2);
        }

        int[] form() {
            return round ? new int[] {1, -2 * p, -2 * q, p * p + q * q - r * r}
                : new int[] {0, SLANTS[p][0], SLANTS[p][1], -q};
        }
    }

    private record Circle(int signs, Root x, Root y, Root r) { }

    private record Image(List<Shape> shapes, int[] three, int z) { }

    private record Sheet(int sort, long[] row) { }

    int lastFinding = -1;
    private List<Shape> shapes = new ArrayList<>();
    private int[] three = {0, 1, 2};
    private int z = 1;
    private final List<Image> pile = new ArrayList<>();
    private final Sheet[] sheets = new Sheet[4];
    private final Root[] spots = new Root[6];
    private final int[] findings = new int[8];
    private List<Shape> foundOf;
    private List<Circle> found;
    private int loose;

    private int f(int k) {
        findings[k]++;
        lastFinding = k;
        return -1000001 - k;
    }

    private long lf(int k) {
        f(k);
        return -4000000000000000001L - k;
    }

    private boolean in(int v, int a, int b) {
        return a <= v && v <= b;
    }

    private boolean shape(int i) {
        return in(i, 0, shapes.size() - 1);
    }

    int round(int x, int y, int r) {
        if (!in(x, -5, 5) || !in(y, -5, 5) || !in(r, 0, 5)) return f(BEYOND);
        if (shapes.size() == 6) return f(FULL);
        shapes.add(new Shape(true, x, y, r));
        return shapes.size() - 1;
    }

    int straight(int slant, int c) {
        if (!in(slant, 0, 5) || !in(c, -30, 30)) return f(BEYOND);
        if (shapes.size() == 6) return f(FULL);
        shapes.add(new Shape(false, slant, c, 0));
        return shapes.size() - 1;
    }

    int of(int i, int what) {
        if (!shape(i) || !in(what, 0, 9)) return f(BEYOND);
        Shape s = shapes.get(i);
        if (what == 0) return s.kind();
        if (what > 5) return s.form()[what - 6];
        if (s.round() != (what < 4)) return f(KIND);
        return what == 1 || what == 4 ? s.p() : what == 2 || what == 5 ? s.q() : s.r();
    }

    int change(int i, int what, int v) {
        if (!shape(i) || !in(what, 1, 5)) return f(BEYOND);
        Shape s = shapes.get(i);
        if (s.round() != (what < 4)) return f(KIND);
        int[] least = {0, -5, -5, 0, 0, -30};
        int[] most = {0, 5, 5, 5, 5, 30};
        if (!in(v, least[what], most[what])) return f(BEYOND);
        int was = of(i, what);
        shapes.set(i, what == 1 || what == 4 ? new Shape(s.round(), v, s.q(), s.r())
            : what == 3 ? new Shape(true, s.p(), s.q(), v) : new Shape(s.round(), s.p(), v, s.r()));
        return was;
    }

    int as(int i, int as) {
        if (!shape(i) || !in(as, 0, 4)) return f(BEYOND);
        Shape s = shapes.get(i);
        if (!s.is(as)) return f(KIND);
        return s.round() ? s.r() : s.q();
    }

    int drop() {
        if (shapes.isEmpty()) return f(NONE);
        shapes.remove(shapes.size() - 1);
        return shapes.size();
    }

    int prune(int kind) {
        if (!in(kind, 0, 4)) return f(BEYOND);
        int were = shapes.size();
        shapes.removeIf(s -> s.is(kind));
        return were - shapes.size();
    }

    int swap(int i, int j) {
        if (!shape(i) || !shape(j)) return f(BEYOND);
        java.util.Collections.swap(shapes, i, j);
        return 1;
    }

    int turn() {
        java.util.Collections.reverse(shapes);
        return shapes.size();
    }

    int lie(int i, int j) {
        if (!shape(i) || !shape(j) || i == j) return f(BEYOND);
        return common(shapes.get(i), shapes.get(j));
    }

    /** By the discriminant where the two forms meet, with a direct look at what is alike. */
    private int common(Shape s, Shape t) {
        if (s.equals(t)) return 3;
        if (!s.round() && !t.round()) return s.p() == t.p() ? 0 : 1;
        if (!s.round()) return common(t, s);
        int[] line = t.form();
        if (t.round()) {
            int[] g = s.form();
            line = new int[] {0, line[1] - g[1], line[2] - g[2], line[3] - g[3]};
            if (line[1] == 0 && line[2] == 0) return 0;
        }
        long side = (long) line[1] * s.p() + (long) line[2] * s.q() + line[3];
        long norm = (long) line[1] * line[1] + (long) line[2] * line[2];
        long gap = norm * s.r() * s.r() - side * side;
        return gap < 0 ? 0 : gap == 0 ? 1 : 2;
    }

    int power(int i, int x, int y) {
        if (!shape(i) || !in(x, -99, 99) || !in(y, -99, 99)) return f(BEYOND);
        int[] g = shapes.get(i).form();
        return g[0] * (x * x + y * y) + g[1] * x + g[2] * y + g[3];
    }

    int radical(int i, int j, int what) {
        if (!shape(i) || !shape(j) || i == j || !in(what, 0, 2)) return f(BEYOND);
        Shape s = shapes.get(i), t = shapes.get(j);
        if (!s.round() || !t.round()) return f(KIND);
        if (s.p() == t.p() && s.q() == t.q()) return f(NONE);
        int[] g = s.form(), h = t.form();
        int[] row = {g[1] - h[1], g[2] - h[2], h[3] - g[3]};
        int divisor = BigInteger.valueOf(row[0]).gcd(BigInteger.valueOf(row[1])).gcd(BigInteger.valueOf(row[2])).intValue();
        boolean negative = row[0] < 0 || row[0] == 0 && row[1] < 0;
        return row[what] / divisor * (negative ? -1 : 1);
    }

    int ring(int i, int j) {
        if (!shape(i) || !shape(j) || i == j) return f(BEYOND);
        Shape s = shapes.get(i), t = shapes.get(j);
        if (s.kind() != 1 || t.kind() != 1) return f(KIND);
        if (common(s, t) > 0) return f(STATE);
        int apart = (s.p() - t.p()) * (s.p() - t.p()) + (s.q() - t.q()) * (s.q() - t.q());
        Frac ratio = Frac.by(BigInteger.valueOf(Math.abs(s.r() * s.r() + t.r() * t.r() - apart)), BigInteger.valueOf(2 * s.r() * t.r()));
        if (ratio.equals(Frac.by(BigInteger.valueOf(5), BigInteger.valueOf(3)))) return 6;
        return ratio.equals(Frac.of(3)) ? 4 : ratio.equals(Frac.of(7)) ? 3 : f(NONE);
    }

    int three(int i, int j, int k) {
        if (!shape(i) || !shape(j) || !shape(k) || i == j || j == k || i == k) return f(BEYOND);
        three = new int[] {i, j, k};
        return 1;
    }

    int ofThree(int k) {
        return in(k, 0, 2) ? three[k] : f(BEYOND);
    }

    int draw() {
        int n = shapes.size();
        if (n < 3) return f(STATE);
        List<int[]> sets = new ArrayList<>();
        for (int set = 0; set < 216; set++) {
            int[] t = {set / 36, set / 6 % 6, set % 6};
            if (t[0] < t[1] && t[1] < t[2] && t[2] < n) sets.add(t);
        }
        z = z * 1103515245 + 12345;
        int number = (z >>> 8) % sets.size();
        three = sets.get(number);
        return number;
    }

    private boolean find() {
        for (int i : three) {
            if (!shape(i)) return false;
        }
        List<Shape> now = List.of(shapes.get(three[0]), shapes.get(three[1]), shapes.get(three[2]));
        if (!now.equals(foundOf)) {
            foundOf = now;
            found = new ArrayList<>();
            loose = 0;
            for (int signs = 0; signs < 8; signs++) findBy(now, signs);
        }
        return true;
    }

    /** The equation of a ROUND: 1, then those ahead of x, y, r, then the rest, all = 0; of a STRAIGHT with 0 first. */
    private static long[] equation(Shape s, boolean bit) {
        if (!s.round()) return new long[] {0, SLANTS[s.p()][0], SLANTS[s.p()][1], (bit ? 1 : -1) * SLANTS[s.p()][2], -s.q()};
        long t = bit ? s.r() : -s.r();
        return new long[] {1, -2 * s.p(), -2 * s.q(), -2 * t, s.p() * s.p() + s.q() * s.q() - t * t};
    }

    private void findBy(List<Shape> given, int signs) {
        long[] stays = null;
        List<Frac[]> rows = new ArrayList<>();
        for (int n = 0; n < 3; n++) {
            boolean bit = (signs >> n) % 2 == 1;
            if (bit && given.get(n).kind() == 3) return;
            long[] e = equation(given.get(n), bit);
            if (e[0] == 1 && stays == null) {
                stays = e;
                continue;
            }
            Frac[] row = new Frac[4];
            rows.add(row);
            for (int c = 0; c < 4; c++) row[c] = Frac.of(e[c + 1]);
        }
        if (stays != null) {
            // what a ROUND has of x x + y y - r r goes with the one that stays
            int at = 0;
            boolean seen = false;
            for (int n = 0; n < 3; n++) {
                if (given.get(n).round() && !seen) {
                    seen = true;
                    continue;
                }
                if (given.get(n).round()) {
                    for (int c = 0; c < 4; c++) rows.get(at)[c] = rows.get(at)[c].minus(Frac.of(stays[c + 1]));
                }
                at++;
            }
        }
        int[] pivots = eliminate(rows);
        if (pivots == null) {
            loose |= 1 << signs;
            return;
        }
        // each of x, y, r is start + slope times the free one
        Frac[] start = {Frac.ZERO, Frac.ZERO, Frac.ZERO};
        Frac[] slope = {Frac.ZERO, Frac.ZERO, Frac.ZERO};
        int free = 3;
        for (int c = 2; c >= 0; c--) {
            boolean pivot = false;
            for (int p : pivots) pivot |= p == c;
            if (!pivot) free = c;
        }
        if (free < 3) slope[free] = Frac.of(1);
        for (int n = 0; n < pivots.length; n++) {
            start[pivots[n]] = Frac.ZERO.minus(rows.get(n)[3]);
            if (free < 3) slope[pivots[n]] = Frac.ZERO.minus(rows.get(n)[free]);
        }
        List<Root[]> places = new ArrayList<>();
        if (stays == null) {
            places.add(new Root[] {Root.of(start[0]), Root.of(start[1]), Root.of(start[2])});
        } else if (solve(stays, start, slope, places)) {
            loose |= 1 << signs;
            return;
        }
        List<Circle> here = new ArrayList<>();
        for (Root[] p : places) {
            if (p[2].sign() > 0) here.add(new Circle(signs, p[0], p[1], p[2]));
        }
        here.sort((a, b) -> a.r().order(b.r()) != 0 ? a.r().order(b.r())
            : a.x().order(b.x()) != 0 ? a.x().order(b.x()) : a.y().order(b.y()));
        found.addAll(here);
    }

    /** To reduced rows, from r to x; null if they aren't independent. */
    private static int[] eliminate(List<Frac[]> rows) {
        int[] pivots = new int[rows.size()];
        int done = 0;
        for (int c = 2; c >= 0 && done < rows.size(); c--) {
            int at = done;
            while (at < rows.size() && rows.get(at)[c].sign() == 0) at++;
            if (at == rows.size()) continue;
            java.util.Collections.swap(rows, at, done);
            Frac lead = rows.get(done)[c];
            for (int n = 0; n < 4; n++) rows.get(done)[n] = rows.get(done)[n].over(lead);
            for (int r = 0; r < rows.size(); r++) {
                if (r == done) continue;
                Frac factor = rows.get(r)[c];
                for (int n = 0; n < 4; n++) rows.get(r)[n] = rows.get(r)[n].minus(factor.times(rows.get(done)[n]));
            }
            pivots[done++] = c;
        }
        return done == rows.size() ? pivots : null;
    }

    /** Puts start + s slope into the equation that stays; whether it holds for every s. */
    private static boolean solve(long[] stays, Frac[] start, Frac[] slope, List<Root[]> places) {
        Frac a = Frac.ZERO, b = Frac.ZERO, c = Frac.of(stays[4]);
        for (int n = 0; n < 3; n++) {
            Frac sign = Frac.of(n == 2 ? -1 : 1);
            Frac lead = Frac.of(stays[n + 1]);
            a = a.plus(sign.times(slope[n]).times(slope[n]));
            b = b.plus(sign.times(Frac.of(2)).times(start[n]).times(slope[n])).plus(lead.times(slope[n]));
            c = c.plus(sign.times(start[n]).times(start[n])).plus(lead.times(start[n]));
        }
        if (a.sign() == 0 && b.sign() == 0) return c.sign() == 0;
        if (a.sign() == 0) {
            addPlace(places, start, slope, Frac.ZERO.minus(c).over(b), Frac.ZERO, Frac.ZERO);
            return false;
        }
        Frac square = b.times(b).minus(Frac.of(4).times(a).times(c));
        if (square.sign() < 0) return false;
        Frac mid = Frac.ZERO.minus(b).over(Frac.of(2).times(a));
        Frac factor = Frac.of(1).over(Frac.of(2).times(a));
        addPlace(places, start, slope, mid, factor, square);
        if (square.sign() > 0) addPlace(places, start, slope, mid, Frac.ZERO.minus(factor), square);
        return false;
    }

    private static void addPlace(List<Root[]> places, Frac[] start, Frac[] slope, Frac s, Frac factor, Frac square) {
        Root[] place = new Root[3];
        for (int n = 0; n < 3; n++) place[n] = Root.of(start[n].plus(slope[n].times(s)), slope[n].times(factor), square);
        places.add(place);
    }

    int answers(int what) {
        if (!in(what, 0, 2)) return f(BEYOND);
        if (!find()) return f(STATE);
        int by = 0;
        for (Circle c : found) by |= 1 << c.signs();
        return what == 0 ? found.size() : what == 1 ? loose : by;
    }

    private int misses(int k) {
        return !find() ? STATE : in(k, 0, found.size() - 1) ? -1 : NONE;
    }

    int signs(int k) {
        return misses(k) >= 0 ? f(misses(k)) : found.get(k).signs();
    }

    private Root part(int k, int which) {
        Circle c = found.get(k);
        return which == 0 ? c.x() : which == 1 ? c.y() : c.r();
    }

    long answer(int k, int which, int what) {
        if (!in(which, 0, 2) || !in(what, 0, 3)) return lf(BEYOND);
        if (misses(k) >= 0) return lf(misses(k));
        return part(k, which).part(what).longValueExact();
    }

    int best(int what) {
        if (!in(what, 0, 1)) return f(BEYOND);
        if (misses(0) >= 0) return f(misses(0));
        int best = 0;
        for (int k = 1; k < found.size(); k++) {
            int order = found.get(k).r().order(found.get(best).r());
            if (what == 0 ? order > 0 : order < 0) best = k;
        }
        return best;
    }

    int rank(int k) {
        if (misses(k) >= 0) return f(misses(k));
        Root r = found.get(k).r();
        return (int) found.stream().filter(c -> c.r().order(r) < 0).count();
    }

    /** Worked in pairs (a, b): a + b times the root that all of the circle have. */
    int touches(int k, int i) {
        if (!shape(i)) return f(BEYOND);
        if (misses(k) >= 0) return f(misses(k));
        Circle c = found.get(k);
        long d = Math.max(c.x().d(), Math.max(c.y().d(), c.r().d()));
        for (int bit = 0; bit < 2; bit++) {
            if (bit == 1 && shapes.get(i).kind() == 3) break;
            long[] e = equation(shapes.get(i), bit == 1);
            Frac a = Frac.of(e[4]), b = Frac.ZERO;
            Root[] parts = {c.x(), c.y(), c.r()};
            for (int n = 0; n < 3; n++) {
                Frac sign = Frac.of(n == 2 ? -e[0] : e[0]);
                Frac pa = parts[n].a(), pb = parts[n].b();
                a = a.plus(sign.times(pa.times(pa).plus(pb.times(pb).times(Frac.of(d))))).plus(Frac.of(e[n + 1]).times(pa));
                b = b.plus(sign.times(Frac.of(2)).times(pa).times(pb)).plus(Frac.of(e[n + 1]).times(pb));
            }
            if (a.sign() == 0 && b.sign() == 0) return bit + 1;
        }
        return 0;
    }

    private long cut(int sort, long v) {
        return sort == 0 ? (byte) v : sort == 1 ? (int) v : v;
    }

    int lays(int s, int i) {
        if (!in(s, 0, 3) || !shape(i)) return f(BEYOND);
        if (sheets[s] == null) return f(MISSING);
        int n = 0;
        for (; n < 4 && n < sheets[s].row().length; n++) sheets[s].row()[n] = shapes.get(i).form()[n];
        return n;
    }

    /** Null stands for what is no long; so does all that comes of it. */
    private static BigInteger fit(BigInteger v) {
        return v == null || v.bitLength() > 63 ? null : v;
    }

    private static BigInteger mul(BigInteger a, BigInteger b) {
        return a == null || b == null ? null : fit(a.multiply(b));
    }

    private static BigInteger add(BigInteger a, BigInteger b) {
        return a == null || b == null ? null : fit(a.add(b));
    }

    private static BigInteger sub(BigInteger a, BigInteger b) {
        return a == null || b == null ? null : fit(a.subtract(b));
    }

    private static BigInteger big(long v) {
        return BigInteger.valueOf(v);
    }

    int invert(int s, int iu, int iv, int ik) {
        if (!in(s, 0, 3) || !in(iu, -9, 9) || !in(iv, -9, 9) || !in(ik, 1, 99)) return f(BEYOND);
        if (sheets[s] == null) return f(MISSING);
        long[] row = sheets[s].row();
        if (row.length < 4) return f(SIZE);
        if (row[0] == 0 && row[1] == 0 && row[2] == 0 && row[3] == 0) return f(STATE);
        BigInteger a = big(row[0]), b = big(row[1]), c = big(row[2]), d = big(row[3]);
        BigInteger u = big(iu), v = big(iv), k = big(ik), two = big(2), far = big(iu * iu + iv * iv);
        BigInteger e = add(b, mul(mul(two, a), u));
        BigInteger ff = add(c, mul(mul(two, a), v));
        BigInteger g = add(add(add(mul(a, far), mul(b, u)), mul(c, v)), d);
        BigInteger[] out = {
            g,
            sub(mul(k, e), mul(mul(two, g), u)),
            sub(mul(k, ff), mul(mul(two, g), v)),
            add(sub(sub(mul(g, far), mul(mul(k, e), u)), mul(mul(k, ff), v)), mul(mul(k, k), a)),
        };
        BigInteger divisor = BigInteger.ZERO;
        int sign = 0;
        for (BigInteger o : out) {
            if (o == null) return f(OVER);
            divisor = divisor.gcd(o);
            sign = sign == 0 ? o.signum() : sign;
        }
        divisor = sign < 0 ? divisor.negate() : divisor;
        for (int n = 0; n < 4; n++) {
            out[n] = fit(out[n].divide(divisor));
            if (out[n] == null || cut(sheets[s].sort(), out[n].longValue()) != out[n].longValue()) return f(OVER);
        }
        for (int n = 0; n < 4; n++) row[n] = out[n].longValueExact();
        return 1;
    }

    int tell(int s) {
        if (!in(s, 0, 3)) return f(BEYOND);
        if (sheets[s] == null) return f(MISSING);
        long[] row = sheets[s].row();
        if (row.length < 4) return f(SIZE);
        if (row[0] == 0) return row[1] == 0 && row[2] == 0 ? 0 : 2;
        int sign = big(row[1]).pow(2).add(big(row[2]).pow(2)).subtract(big(4).multiply(big(row[0])).multiply(big(row[3]))).signum();
        return sign > 0 ? 1 : sign == 0 ? 3 : 0;
    }

    int put(int spot, int k, int which) {
        if (!in(spot, 0, 5) || !in(which, 0, 2)) return f(BEYOND);
        if (misses(k) >= 0) return f(misses(k));
        spots[spot] = part(k, which);
        return 1;
    }

    int ratio(int spot, int p, int m) {
        if (!in(spot, 0, 5) || m == 0 || !in(p, -1000000, 1000000) || !in(m, -1000000, 1000000)) return f(BEYOND);
        spots[spot] = Root.of(Frac.by(big(p), big(m)));
        return 1;
    }

    int root(int spot, int n) {
        if (!in(spot, 0, 5) || !in(n, 0, 1000000)) return f(BEYOND);
        spots[spot] = Root.of(Frac.ZERO, Frac.of(1), Frac.of(n));
        return 1;
    }

    int work(int spot, int s, int t, int what) {
        if (!in(spot, 0, 5) || !in(s, 0, 5) || !in(t, 0, 5) || !in(what, 0, 3)) return f(BEYOND);
        Root a = spots[s], b = spots[t];
        if (a == null || b == null) return f(MISSING);
        if (a.d() != 0 && b.d() != 0 && a.d() != b.d()) return f(KIND);
        if (what == 3 && b.sign() == 0) return f(STATE);
        BigInteger p = a.part(0), q = a.part(1), m = a.part(3), u = b.part(0), v = b.part(1), w = b.part(3);
        BigInteger d = big(Math.max(a.d(), b.d()));
        BigInteger up, root, down;
        if (what == 0) {
            up = add(mul(p, w), mul(u, m));
            root = add(mul(q, w), mul(v, m));
            down = mul(m, w);
        } else if (what == 1) {
            up = sub(mul(p, w), mul(u, m));
            root = sub(mul(q, w), mul(v, m));
            down = mul(m, w);
        } else if (what == 2) {
            up = add(mul(p, u), mul(mul(q, v), d));
            root = add(mul(p, v), mul(q, u));
            down = mul(m, w);
        } else {
            up = mul(sub(mul(p, u), mul(mul(q, v), d)), w);
            root = mul(sub(mul(q, u), mul(p, v)), w);
            down = mul(m, sub(mul(u, u), mul(mul(v, v), d)));
        }
        if (up == null || root == null || down == null) return f(OVER);
        Root out = new Root(Frac.by(up, down), Frac.by(root, down), root.signum() == 0 ? 0 : d.longValueExact());
        for (int n = 0; n < 4; n++) {
            if (fit(out.part(n)) == null) return f(OVER);
        }
        spots[spot] = out;
        return 1;
    }

    int compare(int s, int t) {
        if (!in(s, 0, 5) || !in(t, 0, 5)) return f(BEYOND);
        if (spots[s] == null || spots[t] == null) return f(MISSING);
        return Integer.signum(spots[s].order(spots[t]));
    }

    long number(int spot, int what) {
        if (!in(spot, 0, 5) || !in(what, 0, 3)) return lf(BEYOND);
        return spots[spot] == null ? lf(MISSING) : spots[spot].part(what).longValueExact();
    }

    int taken(int spot, int as) {
        if (!in(spot, 0, 5) || !in(as, 0, 3)) return f(BEYOND);
        Root n = spots[spot];
        if (n == null) return f(MISSING);
        if (as == 0) return Integer.signum(n.sign());
        boolean kind = as == 1 ? n.d() != 0 : as == 2 ? n.d() == 0 : n.d() == 0 && n.m().equals(BigInteger.ONE);
        if (!kind) return f(KIND);
        BigInteger told = n.part(as == 1 ? 2 : as == 2 ? 3 : 0);
        return told.bitLength() > 31 ? f(OVER) : told.intValueExact();
    }

    int clear(int spot) {
        if (!in(spot, 0, 5)) return f(BEYOND);
        int held = spots[spot] == null ? 0 : 1;
        spots[spot] = null;
        return held;
    }

    int sheet(int s, int sort, int n) {
        if (!in(s, 0, 3) || !in(sort, -1, 2)) return f(BEYOND);
        if (sort >= 0 && n < 0) return f(SIZE);
        if (sort >= 0 && n > 40) return f(BEYOND);
        sheets[s] = sort < 0 ? null : new Sheet(sort, new long[n]);
        return sort < 0 ? 0 : n;
    }

    int write(int s, int i, long v) {
        if (!in(s, 0, 3)) return f(BEYOND);
        if (sheets[s] == null) return f(MISSING);
        if (!in(i, 0, sheets[s].row().length - 1)) return f(BEYOND);
        sheets[s].row()[i] = cut(sheets[s].sort(), v);
        return 1;
    }

    long item(int s, int i) {
        if (!in(s, 0, 3)) return lf(BEYOND);
        if (sheets[s] == null) return lf(MISSING);
        return in(i, 0, sheets[s].row().length - 1) ? sheets[s].row()[i] : lf(BEYOND);
    }

    int copy(int s, int i, int t, int j, int n) {
        if (!in(s, 0, 3) || !in(t, 0, 3)) return f(BEYOND);
        if (sheets[s] == null || sheets[t] == null) return f(MISSING);
        if (sheets[s].sort() != sheets[t].sort()) return f(KIND);
        long[] from = sheets[s].row(), into = sheets[t].row();
        if (i < 0 || j < 0 || n < 0 || (long) i + n > from.length || (long) j + n > into.length) return f(BEYOND);
        long[] were = from.clone();
        for (int k = 0; k < n; k++) into[j + k] = were[i + k];
        return n;
    }

    int image() {
        if (pile.size() == 8) return f(FULL);
        pile.add(new Image(List.copyOf(shapes), three.clone(), z));
        return pile.size();
    }

    int back() {
        if (pile.isEmpty()) return f(NONE);
        Image last = pile.remove(pile.size() - 1);
        shapes = new ArrayList<>(last.shapes());
        three = last.three();
        z = last.z();
        return shapes.size();
    }

    int seed(int v) {
        int was = z;
        z = v;
        return was;
    }

    int count(int what) {
        switch (what) {
            case 0: return shapes.size();
            case 1: return (int) shapes.stream().filter(s -> s.is(1)).count();
            case 2: return (int) shapes.stream().filter(s -> s.is(3)).count();
            case 3: return pile.size();
            case 4: return z;
            case 5: return (int) Arrays.stream(spots).filter(s -> s != null).count();
            default: return f(BEYOND);
        }
    }

    int status(int which) {
        if (!in(which, -1, 7)) return f(BEYOND);
        return which < 0 ? Arrays.stream(findings).sum() : findings[which];
    }
}
