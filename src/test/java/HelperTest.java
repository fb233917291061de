import java.math.BigInteger;
import java.util.Random;

/** Promises 19 to 24: HELP, LEAST, SIDE WAYS, FIRST, the mean. */
public final class HelperTest {
    private static final Checks CHECKS = new Checks();

    public static void main(String[] args) {
        helpStageByStage();
        leastOfAll();
        wrongInputs();
        sideWays();
        Random random = new Random(7);
        for (int round = 0; round < 3000; round++) {
            randomWays(random);
        }
        CHECKS.end();
    }

    private static void due(String call, long got, long want) {
        CHECKS.due(call, got, want);
    }

    /** Depth as a fraction, turn by turn, as the document tells it. */
    private static long[] farBy(int n, int c) {
        long above = 0;
        long below = 1;
        for (int k = n; k >= 2; k--) {
            // C - x = (k - 1) x + depth + x, so x = (C - depth) / (k + 1).
            above = above * (k + 1) + (c * below - above);
            below *= k + 1;
        }
        above += c * below;
        below *= 2;
        long divisor = BigInteger.valueOf(above).gcd(BigInteger.valueOf(below)).longValue();
        return new long[] {above / divisor, below / divisor};
    }

    private static void helpStageByStage() {
        for (int n = 1; n <= 6; n++) {
            for (int c = 1; c <= 999; c++) {
                TurnThird x = new TurnThird();
                long[] want = farBy(n, c);
                due("help(" + n + ", " + c + ", 0)", x.help(n, c, 0), want[0]);
                due("help(" + n + ", " + c + ", 1)", x.help(n, c, 1), want[1]);
            }
        }
    }

    private static void leastOfAll() {
        for (int c = 1; c <= 999; c += 7) {
            for (int far = 1; far <= 999; far += far < c ? 1 : 50) {
                int want = -1;
                for (int n = 6; n >= 1; n--) {
                    long[] by = farBy(n, c);
                    want = by[0] >= far * by[1] ? n : want;
                }
                due("least(" + far + ", " + c + ")", new TurnThird().least(far, c), want);
            }
        }
        TurnThird x = new TurnThird();
        due("least(1, 2)", x.least(1, 2), 1);
        due("least(1, 1)", x.least(1, 1), TurnThird.NONE);
        due("least(999, 999)", x.least(999, 999), TurnThird.NONE);
    }

    private static void wrongInputs() {
        TurnThird x = new TurnThird();
        int[][] help = {{0, 1, 0}, {7, 1, 0}, {1, 0, 0}, {1, 1000, 0}, {1, 1, 2}, {1, 1, -1}};
        for (int[] a : help) {
            due("help wrong", x.help(a[0], a[1], a[2]), Checks.BAD_LONG);
        }
        int[][] least = {{0, 1}, {1000, 1}, {1, 0}, {1, 1000}, {-1, -1}};
        for (int[] a : least) {
            due("least wrong", x.least(a[0], a[1]), TurnThird.BAD);
        }
        int[][] side = {{-1, 1}, {17, 1}, {0, 0}, {0, 100}};
        for (int[] a : side) {
            due("side wrong", x.side(a[0], a[1]), TurnThird.BAD);
        }
        due("first(-1)", x.first(-1), TurnThird.BAD);
        due("first(6)", x.first(6), TurnThird.BAD);
        due("mean(-1)", x.mean(-1), Checks.BAD_LONG);
        due("mean(2)", x.mean(2), Checks.BAD_LONG);
        due("gone()", x.gone(), TurnThird.NOT);
        due("no SIDE WAY", x.first(5), TurnThird.NONE);
        due("no SIDE WAY", x.mean(0), 0);
        due("no SIDE WAY", x.mean(1), 1);
    }

    private static void sideWays() {
        TurnThird x = new TurnThird();
        due("side(16, 99)", x.side(16, 99), 1);
        due("sixteenths are all there", x.side(1, 1), TurnThird.FULL);
        due("BAD ahead of FULL", x.side(1, 100), TurnThird.BAD);
        for (int i = 2; i <= 6; i++) {
            due("side(0, 1)", x.side(0, 1), i);
        }
        due("a seventh", x.side(0, 1), TurnThird.FULL);
        due("count(6)", x.count(6), 6);
        for (int i = 0; i < 6; i++) {
            due("like ones, the least first", x.first(i), i);
        }
        due("mean(0)", x.mean(0), 99);
        due("gone()", x.gone(), 5);
        due("first(5)", x.first(5), TurnThird.NONE);
        x = new TurnThird();
        x.side(1, 3);
        x.side(2, 6);
        x.side(3, 8);
        due("3 by 8 is most", x.first(0), 2);
        due("1 by 3 is 2 by 6", x.first(1), 0);
        due("1 by 3 is 2 by 6", x.first(2), 1);
        // (3 * 8 + 1 * 11 + 2 * 17 + 10 * 17) by 16
        due("mean(0)", x.mean(0), 239);
        due("mean(1)", x.mean(1), 16);
    }

    private static void randomWays(Random random) {
        TurnThird x = new TurnThird();
        int[] chance = new int[6];
        int[] minutes = new int[6];
        int n = 0;
        int all = 0;
        for (int act = 0; act < 12; act++) {
            int s = random.nextInt(random.nextBoolean() ? 4 : 17);
            int m = 1 + random.nextInt(random.nextBoolean() ? 5 : 99);
            if (random.nextInt(5) == 0) {
                due("gone()", x.gone(), n == 0 ? TurnThird.NOT : n - 1);
                n = Math.max(0, n - 1);
                all = 0;
                for (int i = 0; i < n; i++) {
                    all += chance[i];
                }
            } else if (n == 6 || all + s > 16) {
                due("side full", x.side(s, m), TurnThird.FULL);
            } else {
                chance[n] = s;
                minutes[n] = m;
                n++;
                all += s;
                due("side", x.side(s, m), n);
            }
            checkWays(x, chance, minutes, n);
        }
    }

    /** Each place in the order is found by how many ways go ahead of a way. */
    private static void checkWays(TurnThird x, int[] chance, int[] minutes, int n) {
        long sum = 0;
        int nowhere = 16;
        int allMinutes = 0;
        for (int i = 0; i < n; i++) {
            int ahead = 0;
            int till = minutes[i];
            for (int j = 0; j < n; j++) {
                int more = chance[j] * minutes[i] - chance[i] * minutes[j];
                if (more > 0 || more == 0 && j < i) {
                    ahead++;
                    till += minutes[j];
                }
            }
            due("first(" + ahead + ")", x.first(ahead), i);
            sum += (long) till * chance[i];
            nowhere -= chance[i];
            allMinutes += minutes[i];
        }
        sum += (long) nowhere * allMinutes;
        for (int i = n; i < 6; i++) {
            due("first beyond", x.first(i), TurnThird.NONE);
        }
        long divisor = BigInteger.valueOf(sum).gcd(BigInteger.valueOf(16)).longValue();
        due("mean(0)", x.mean(0), sum / divisor);
        due("mean(1)", x.mean(1), 16 / divisor);
    }
}
