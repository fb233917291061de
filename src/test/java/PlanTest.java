import java.util.Random;

/** Promises 14 to 18: JUDGED, what is behind k bytes, HOME, UNLIT. */
public final class PlanTest {
    private static final Checks CHECKS = new Checks();

    public static void main(String[] args) {
        stepsIn();
        stepsOutByShares();
        stepsUnlit();
        stepsThatCannotBe();
        failing();
        wrongInputs();
        unlitExamples();
        Random random = new Random(5);
        for (int round = 0; round < 4000; round++) {
            randomPlan(random);
            randomUnlit(random);
        }
        CHECKS.end();
    }

    private static void due(String call, long got, long want) {
        CHECKS.due(call, got, want);
    }

    private static void stateDue(TurnThird x, int k, int depth, int minutes, int... left) {
        due("state(" + k + ", 0)", x.state(k, 0), depth);
        due("state(" + k + ", 1)", x.state(k, 1), minutes);
        for (int i = 0; i < left.length; i++) {
            due("left(" + k + ", " + i + ")", x.left(k, i), left[i]);
        }
    }

    private static void stepsIn() {
        TurnThird x = Checks.inCave("334r;245.", 2, 3, 4, 60);
        Checks.type(x, 1, "++");
        stateDue(x, 0, 0, 0, 2, 3, 4, 60);
        stateDue(x, 1, 1, 3, 0, 0, 1, 57);
        stateDue(x, 2, 2, 5, 0, 0, 0, 55);
        due("judged()", x.judged(), TurnThird.NONE);
        due("home()", x.home(), 0);
    }

    private static void stepsOutByShares() {
        // Out of a PART of 246: 4 by four lamps, 6 by two or three, 18 by one.
        TurnThird x = Checks.inCave("246r", 60, 60, 60, 60);
        Checks.type(x, 1, "+-");
        stateDue(x, 2, 0, 6, 54, 54, 54, 54);
        Checks.retype(x, 1, "+x0-");
        stateDue(x, 4, 0, 8, 0, 52, 52, 52);
        Checks.retype(x, 1, "+x0x2-");
        stateDue(x, 6, 0, 8, 0, 52, 0, 52);
        Checks.retype(x, 1, "+x0x2x3-");
        stateDue(x, 8, 0, 20, 0, 40, 0, 0);
        due("home()", x.home(), 1);
        // Lamp 0 does not last 4; then 6 is due, for which lamp 1 does not last; still 6, by two.
        x = Checks.inCave("246r", 5, 7, 60, 60);
        Checks.type(x, 1, "+-");
        stateDue(x, 2, 0, 8, 0, 0, 52, 52);
        // One after the other all are out.
        x = Checks.inCave("246r", 5, 7, 7, 19);
        Checks.type(x, 1, "+-+");
        due("judged()", x.judged(), 1);
        stateDue(x, 1, 1, 2, 3, 5, 5, 17);
        stateDue(x, 2, 1, 2, 0, 0, 0, 0);
        stateDue(x, 3, 1, 2, 0, 0, 0, 0);
        due("home()", x.home(), 0);
        x.lamp(3, 20);
        stateDue(x, 2, 0, 20, 0, 0, 0, 0);
        due("judged()", x.judged(), 2);
    }

    private static void stepsUnlit() {
        TurnThird x = Checks.inCave("334r;245.", 9, 9, 9, 9);
        Checks.type(x, 1, "u+u-");
        stateDue(x, 1, 0, 0, 9);
        stateDue(x, 2, 1, 6, 9);
        stateDue(x, 4, 0, 12, 9, 9, 9, 9);
        due("home()", x.home(), 1);
        Checks.retype(x, 1, "uu+-");
        stateDue(x, 4, 0, 9, 6);
        Checks.retype(x, 1, "ux0x1x2x3+u-");
        stateDue(x, 12, 0, 12, 0, 0, 0, 0);
        due("all lamps failed, by the rope", x.home(), 1);
        Checks.retype(x, 1, "+u+-");
        due("no rope", x.judged(), 2);
        stateDue(x, 4, 1, 3, 6);
        Checks.retype(x, 1, "++u-");
        due("no rope, out", x.judged(), 3);
        Checks.retype(x, 1, "+-u");
        due("u with no step is well", x.judged(), TurnThird.NONE);
        due("u with no step is well", x.home(), 1);
    }

    private static void stepsThatCannotBe() {
        TurnThird x = Checks.inCave("111r", 9);
        Checks.type(x, 1, "-");
        due("out of it", x.judged(), 0);
        due("out of it", x.home(), 0);
        Checks.retype(x, 1, "+u+-");
        due("beyond the end", x.judged(), 2);
        stateDue(x, 4, 1, 1, 8);
        Checks.retype(x, 1, "+-");
        due("home()", x.home(), 1);
        x.type(0, '!');
        due("THE CAVE has a FAULT", x.judged(), 0);
        x.undo(0);
        x.type(1, '!');
        due("THE PLAN has a FAULT", x.judged(), TurnThird.NONE);
        due("THE PLAN has a FAULT", x.home(), 1);
        due("THE PLAN has a FAULT", x.state(0, 0), 0);
        due("THE PLAN has a FAULT", x.state(1, 0), TurnThird.BAD);
        due("THE PLAN has a FAULT", x.left(1, 0), TurnThird.BAD);
    }

    private static void failing() {
        TurnThird x = Checks.inCave("112r", 9, 9, 9, 9);
        x.goers(2);
        Checks.type(x, 1, "x1x3+-");
        stateDue(x, 1, 0, 0, 9, 9);
        stateDue(x, 2, 0, 0, 9, 0);
        stateDue(x, 6, 0, 3, 6, 0);
        Checks.retype(x, 1, "x2x3+-");
        stateDue(x, 6, 0, 2, 7, 7);
        Checks.retype(x, 1, "x0x0x1+");
        due("none goes", x.judged(), 6);
        x.lamp(0, 0);
        x.lamp(1, 5);
        Checks.retype(x, 1, "+-");
        stateDue(x, 2, 0, 3, 0, 2);
    }

    private static void wrongInputs() {
        TurnThird x = Checks.inCave("111r;111r");
        x.goers(2);
        Checks.type(x, 1, "+-");
        due("state(3, 0)", x.state(3, 0), TurnThird.BAD);
        due("state(-1, 0)", x.state(-1, 0), TurnThird.BAD);
        due("state(0, -1)", x.state(0, -1), TurnThird.BAD);
        due("state(0, 2)", x.state(0, 2), TurnThird.BAD);
        due("left(3, 0)", x.left(3, 0), TurnThird.BAD);
        due("left(-1, 0)", x.left(-1, 0), TurnThird.BAD);
        due("left(0, 2)", x.left(0, 2), TurnThird.BAD);
        due("left(0, -1)", x.left(0, -1), TurnThird.BAD);
        due("unlit(3, 0, 0)", x.unlit(3, 0, 0), TurnThird.BAD);
        due("unlit(-1, 0, 0)", x.unlit(-1, 0, 0), TurnThird.BAD);
        due("unlit(1, 2, 0)", x.unlit(1, 2, 0), TurnThird.BAD);
        due("unlit(1, -1, 0)", x.unlit(1, -1, 0), TurnThird.BAD);
        due("unlit(1, 0, 2)", x.unlit(1, 0, 2), TurnThird.BAD);
        due("unlit(1, 0, -1)", x.unlit(1, 0, -1), TurnThird.BAD);
        Checks.retype(x, 0, "111r;".repeat(10) + "111r");
        due("unlit(11, 0, 0)", x.unlit(11, 0, 0), TurnThird.BAD);
        due("unlit(10, 0, 0)", x.unlit(10, 0, 0), 20);
    }

    private static void unlitExamples() {
        TurnThird x = Checks.inCave("111r;111.;222r;111r", 8);
        due("lit through 3", x.unlit(3, 0, 0), 8);
        due("lit through 3", x.unlit(3, 0, 1), 0);
        x.lamp(0, 6);
        due("through 4: 10 and 4 more", x.unlit(4, 0, 0), 14);
        due("of bits 4, 9: 4", x.unlit(4, 0, 1), 4);
        x.lamp(0, 2);
        due("all ropes", x.unlit(4, 0, 0), 18);
        due("all ropes", x.unlit(4, 0, 1), 13);
        x.lamp(0, 1);
        due("no rope", x.unlit(4, 0, 0), TurnThird.NONE);
        due("no rope", x.unlit(4, 0, 1), TurnThird.NONE);
        x.lamp(0, 0);
        due("none needed", x.unlit(1, 0, 0), 4);
        due("none needed", x.unlit(1, 0, 1), 1);
        due("nowhere", x.unlit(0, 0, 0), 0);
        due("nowhere", x.unlit(0, 0, 1), 0);
    }

    /** A second telling of THE PLAN: lamps are put out one at a time, the least first. */
    private static void randomPlan(Random random) {
        int[][] parts = Checks.randomParts(random, random.nextInt(9));
        int top = random.nextBoolean() ? 40 : 150;
        int[] left = {random.nextInt(top), random.nextInt(top), random.nextInt(top), random.nextInt(top)};
        TurnThird x = Checks.inCave(Checks.caveText(parts), left);
        int goers = 1 + random.nextInt(4);
        x.goers(goers);
        String plan = Checks.randomPlan(random, 41);
        Checks.type(x, 1, plan);
        boolean[] out = new boolean[4];
        int depth = 0;
        int minutes = 0;
        int stuck = -1;
        for (int k = 0; k <= plan.length(); k++) {
            stateDue(x, k, depth, minutes, java.util.Arrays.copyOf(left, goers));
            if (k == plan.length() || stuck >= 0) {
                continue;
            }
            char c = plan.charAt(k);
            if (c >= '0' && c <= '3') {
                left[c - '0'] = 0;
                out[c - '0'] = true;
            }
            if (c != '+' && c != '-') {
                continue;
            }
            int at = c == '+' ? depth : depth - 1;
            int steps = plan.substring(0, k).lastIndexOf('u');
            boolean unlit = steps > Math.max(plan.lastIndexOf('+', k - 1), plan.lastIndexOf('-', k - 1));
            if (at < 0 || at >= parts.length || unlit && parts[at][3] == 0) {
                stuck = k;
                continue;
            }
            int takes = unlit ? 2 * (c == '+' ? parts[at][0] : parts[at][1]) : lit(parts[at], c == '+', goers, left, out);
            if (takes < 0) {
                stuck = k;
                continue;
            }
            minutes += takes;
            depth += c == '+' ? 1 : -1;
        }
        due("judged() of " + plan, x.judged(), stuck);
        due("home() of " + plan, x.home(), stuck < 0 && depth == 0 ? 1 : 0);
    }

    private static int lit(int[] part, boolean in, int goers, int[] left, boolean[] out) {
        while (true) {
            int going = 0;
            int least = -1;
            for (int i = 0; i < goers; i++) {
                if (!out[i]) {
                    going++;
                    least = least < 0 || left[i] < left[least] ? i : least;
                }
            }
            if (going == 0) {
                return -1;
            }
            int m = (int) Math.ceil((double) goers / going);
            int takes = in ? part[0] : m == 1 ? part[1] : (m - 1) * part[2];
            if (left[least] >= takes) {
                for (int i = 0; i < goers; i++) {
                    left[i] -= out[i] ? 0 : takes;
                }
                return takes;
            }
            out[least] = true;
            left[least] = 0;
        }
    }

    /** Bits from the greatest down, minutes added PART by PART. */
    private static void randomUnlit(Random random) {
        int[][] parts = Checks.randomParts(random, random.nextInt(17));
        int k = random.nextInt(Math.min(10, parts.length) + 1);
        int burn = random.nextInt(80);
        TurnThird x = Checks.inCave(Checks.caveText(parts), 60, burn);
        int best = -1;
        int bestBits = -1;
        for (int bits = (1 << k) - 1; bits >= 0; bits--) {
            int minutes = 0;
            int light = 0;
            boolean roped = true;
            for (int i = 0; i < k; i++) {
                int both = parts[i][0] + parts[i][1];
                boolean unlit = (bits & 1 << i) != 0;
                roped &= !unlit || parts[i][3] == 1;
                minutes += unlit ? 2 * both : both;
                light += unlit ? 0 : both;
            }
            if (roped && light <= burn && (best < 0 || minutes <= best)) {
                best = minutes;
                bestBits = bits;
            }
        }
        due("unlit minutes", x.unlit(k, 1, 0), best);
        due("unlit bits", x.unlit(k, 1, 1), bestBits);
    }
}
