import java.math.BigInteger;
import java.util.Random;

/** Promises 10 to 13: FAR, SAFE, RULE, POINT, by examples and by what makes a PLACE the right one. */
public final class HowFarTest {
    private static final Checks CHECKS = new Checks();

    public static void main(String[] args) {
        examples();
        wrongInputs();
        edges();
        Random random = new Random(3);
        for (int round = 0; round < 4000; round++) {
            randomCave(random);
        }
        CHECKS.end();
    }

    private static void due(String call, long got, long want) {
        CHECKS.due(call, got, want);
    }

    private static void examples() {
        TurnThird x = Checks.inCave("334r;245.", 8, 25, 40, 30);
        due("far(0, 0)", x.far(0, 0), 4);
        due("far(0, 1)", x.far(0, 1), 3);
        due("far(1, 0) at the end", x.far(1, 0), 2);
        due("far(1, 1) at the end", x.far(1, 1), 1);
        // Four by one light: out by 3 times SHARED; 3 + 12 is above 8.
        due("safe(3, 0)", x.safe(3, 0), 8);
        due("safe(3, 1)", x.safe(3, 1), 15);
        // Two or three lamps for four: two to a light, 3 + 4 = 7, then 1 of 7.
        due("safe(2, 0)", x.safe(2, 0), 8);
        due("safe(2, 1)", x.safe(2, 1), 7);
        due("safe(1, 0)", x.safe(1, 0), 8);
        due("safe(0, 0)", x.safe(0, 0), 4);
        due("rule(2, 0, 0)", x.rule(2, 0, 0), 3);
        due("rule(2, 0, 1)", x.rule(2, 0, 1), 2);
        due("rule(2, 0, 2): 4 in, 3 + 2 out", x.rule(2, 0, 2), 0);
        due("rule(3, 0, 2)", x.rule(3, 0, 2), 1);
        due("point(0): 5 of 6", x.point(0), 5);
        due("point(1)", x.point(1), 6);
    }

    private static void wrongInputs() {
        TurnThird x = Checks.inCave("111r");
        x.goers(3);
        int[][] far = {{-1, 0}, {3, 0}, {0, 2}, {0, -1}, {Integer.MAX_VALUE, 0}, {Integer.MIN_VALUE, 1}};
        for (int[] a : far) {
            due("far(" + a[0] + ", " + a[1] + ")", x.far(a[0], a[1]), Checks.BAD_LONG);
            due("safe(" + a[0] + ", " + a[1] + ")", x.safe(a[0], a[1]), Checks.BAD_LONG);
        }
        int[][] rule = {{1, 0, 0}, {10, 0, 0}, {2, -1, 0}, {2, 3, 0}, {2, 0, 3}, {2, 0, -1}};
        for (int[] a : rule) {
            due("rule wrong", x.rule(a[0], a[1], a[2]), Checks.BAD_LONG);
        }
        due("point(2)", x.point(2), Checks.BAD_LONG);
        due("point(-1)", x.point(-1), Checks.BAD_LONG);
    }

    private static void edges() {
        TurnThird x = Checks.inCave("111r", 0, 9, 9, 9);
        due("dead lamp", x.far(0, 0), 0);
        due("dead lamp", x.far(0, 1), 1);
        due("dead lamp, all", x.safe(3, 0), 0);
        due("dead lamp, rule", x.rule(2, 3, 0), 0);
        due("dead lamp, out", x.rule(2, 3, 2), 1);
        x.goers(1);
        x.lamp(0, 2);
        due("just to the end", x.far(0, 0), 1);
        due("one of none failing", x.safe(0, 0), 1);
        due("f not below GOERS", x.safe(1, 0), Checks.BAD_LONG);
        due("lamps of no GOER are not looked at", x.rule(2, 0, 0), 1);
        x.type(0, ';');
        due("FAULT: far", x.far(0, 0), 0);
        due("FAULT: far", x.far(0, 1), 1);
        due("FAULT: point", x.point(0), 0);
        due("FAULT: point", x.point(1), 1);
        due("FAULT: rule", x.rule(9, 0, 2), 1);
    }

    private static void randomCave(Random random) {
        int[][] parts = Checks.randomParts(random, random.nextInt(17));
        int top = random.nextBoolean() ? 60 : 1000;
        int[] burns = {random.nextInt(top), random.nextInt(top), random.nextInt(top), random.nextInt(top)};
        TurnThird x = Checks.inCave(Checks.caveText(parts), burns);
        int goers = 1 + random.nextInt(4);
        x.goers(goers);
        int least = 1000;
        for (int goer = 0; goer < goers; goer++) {
            least = Math.min(least, burns[goer]);
            farthest(parts, "far", x.far(goer, 0), x.far(goer, 1), burns[goer], 1, 1);
        }
        for (int f = 0; f < goers; f++) {
            int toALight = (int) Math.ceil((double) goers / (goers - f));
            farthest(parts, "safe", x.safe(f, 0), x.safe(f, 1), least, 1, toALight);
            for (int r = 2; r <= 9; r++) {
                long above = x.rule(r, f, 0);
                long below = x.rule(r, f, 1);
                farthest(parts, "rule", above, below, least, r, 0);
                boolean out = scaledMinutes(parts, above, below, toALight) <= least * below;
                due("rule out", x.rule(r, f, 2), out ? 1 : 0);
            }
        }
        int allIn = 0;
        for (int[] part : parts) {
            allIn += part[0];
        }
        farthest(parts, "point", x.point(0), x.point(1), allIn, 1, 1);
    }

    /** Minutes in to above by below and, if toALight is not 0, out again, times below. */
    private static long scaledMinutes(int[][] parts, long above, long below, int toALight) {
        long sum = 0;
        for (int i = 0; i < parts.length; i++) {
            long share = Math.max(0, Math.min(below, above - i * below));
            int[] part = parts[i];
            int out = toALight == 0 ? 0 : toALight == 1 ? part[1] : (toALight - 1) * part[2];
            sum += share * (part[0] + out);
        }
        return sum;
    }

    /** Lowest terms, within THE CAVE, and either at its end or with an r-th of all minutes just over. */
    private static void farthest(int[][] parts, String call, long above, long below, int minutes, int r, int toALight) {
        CHECKS.holds(call + " lowest terms", below > 0 && above >= 0
                && BigInteger.valueOf(above).gcd(BigInteger.valueOf(below)).longValue() == 1);
        CHECKS.holds(call + " in THE CAVE", above <= parts.length * below);
        long spent = scaledMinutes(parts, above, below, toALight) * r;
        boolean atEnd = above == parts.length * below;
        CHECKS.holds(call + " farthest", atEnd ? spent <= minutes * below : spent == minutes * below);
    }
}
