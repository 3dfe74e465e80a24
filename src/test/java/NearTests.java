import java.math.BigDecimal;
import java.math.BigInteger;
import java.math.MathContext;
import java.math.RoundingMode;
import java.util.Random;

/** compare() and taken(.., 0) of NUMBERS that differ by less than any double shows, their roots of unlike numbers. */
public final class NearTests {
    private static final MathContext DIGITS = new MathContext(200);
    private static int wrong = 0;
    private static int checks = 0;

    private static void due(String what, long got, long want) {
        checks++;
        if (got != want) {
            wrong++;
            if (wrong > 20) {
                return;
            }
            System.out.println(what + " answered " + got + ", due is " + want);
        }
    }

    public static void main(String[] args) {
        Random lot = new Random(7);
        for (int n = 0; n < 3000; n++) {
            nearRoots(lot, n % 3 == 0);
        }
        widest();
        System.out.println(checks + " checks, " + wrong + " wrong");
        if (wrong != 0) {
            System.exit(1);
        }
    }

    private static BigDecimal root(int d) {
        return new BigDecimal(d).sqrt(DIGITS);
    }

    /** A SPOT holds v by 10 to the 15: v in three parts of six digits each, helped by SPOTS 4 and 5. */
    private static void hold(ThreeTouched x, int spot, BigInteger v) {
        BigInteger million = BigInteger.valueOf(1000000);
        BigInteger[] high = v.divideAndRemainder(million);
        BigInteger[] top = high[0].divideAndRemainder(million);
        x.ratio(5, 1000000, 1);
        x.ratio(spot, top[0].intValueExact(), 1);
        x.work(spot, spot, 5, 2);
        x.ratio(4, top[1].intValueExact(), 1);
        x.work(spot, spot, 4, 0);
        x.work(spot, spot, 5, 2);
        x.ratio(4, high[1].intValueExact(), 1);
        due("hold", x.work(spot, spot, 4, 0), 1);
        x.ratio(5, 1, 1000000);
        x.work(spot, spot, 5, 2);
        x.work(spot, spot, 5, 2);
        x.ratio(5, 1, 1000);
        due("hold", x.work(spot, spot, 5, 2), 1);
    }

    /** q root d against v root e and a fraction that comes as near as 10 to the -15 lets it, from below and above. */
    private static void nearRoots(Random lot, boolean likeRoots) {
        int d = 2 + lot.nextInt(5000);
        int e = likeRoots ? d : 2 + lot.nextInt(5000);
        int q = lot.nextInt(13) - 6;
        int v = lot.nextInt(13) - 6;
        BigDecimal gap = root(d).multiply(BigDecimal.valueOf(q)).subtract(root(e).multiply(BigDecimal.valueOf(v)));
        BigInteger below = gap.movePointRight(15).setScale(0, RoundingMode.FLOOR).toBigInteger();
        boolean exact = gap.stripTrailingZeros().scale() <= 0 || gap.movePointRight(15).subtract(new BigDecimal(below)).signum() == 0;
        for (int side = 0; side < 2; side++) {
            ThreeTouched x = new ThreeTouched();
            hold(x, 0, below.add(BigInteger.valueOf(side)));
            x.root(1, d);
            x.ratio(5, q, 1);
            x.work(1, 1, 5, 2);
            x.root(2, e);
            x.ratio(5, v, 1);
            x.work(2, 2, 5, 2);
            if (x.work(3, 2, 0, 0) != 1) {
                continue;
            }
            BigDecimal held = new BigDecimal(below.add(BigInteger.valueOf(side))).movePointLeft(15);
            int want = exact && side == 0 ? 0 : gap.compareTo(held);
            String what = q + " root " + d + " against " + v + " root " + e + " + " + held;
            due(what, x.compare(1, 3), want);
            due(what, x.compare(3, 1), -want);
            if (x.work(4, 1, 3, 1) == 1) {
                due("sign: " + what, x.taken(4, 0), want);
            }
        }
    }

    /** The least long and such, with the greatest d there is: as wide as compare ever has to work. */
    private static void widest() {
        ThreeTouched x = new ThreeTouched();
        x.ratio(0, -1, 1);
        for (int n = 0; n < 63; n++) {
            x.work(0, 0, 0, 0);
        }
        x.root(1, 999983);
        due("wide", x.work(1, 1, 0, 0), 1);
        due("sign", x.taken(1, 0), -1);
        due("wide", x.compare(0, 1), -1);
        due("wide", x.compare(1, 0), 1);
        x.root(2, 999979);
        due("wide", x.work(2, 2, 0, 0), 1);
        due("wide", x.compare(1, 2), 1);
        due("wide", x.compare(2, 1), -1);
        due("wide", x.compare(2, 2), 0);
        // q the least long as well: root d doubled 63 times with a minus
        x.ratio(3, -1, 1);
        x.root(4, 999983);
        x.work(4, 4, 3, 2);
        x.root(5, 999979);
        x.work(5, 5, 3, 2);
        for (int n = 0; n < 63; n++) {
            due("wide", x.work(4, 4, 4, 0), 1);
            due("wide", x.work(5, 5, 5, 0), 1);
        }
        due("wide q", x.number(4, 1), Long.MIN_VALUE);
        due("wide q", x.compare(4, 5), -1);
        due("wide q", x.compare(5, 4), 1);
        due("wide q", x.compare(4, 0), -1);
        due("wide q", x.compare(0, 4), 1);
        due("wide", x.work(4, 4, 0, 0), 1);
        due("wide", x.work(5, 5, 0, 0), 1);
        due("wide", x.compare(4, 5), -1);
        due("wide", x.compare(5, 4), 1);
        due("wide", x.compare(5, 5), 0);
        due("sign", x.taken(5, 0), -1);
    }
}
