import java.util.Random;

/** Promises 25 to 27: CANS, TURNED. */
public final class CanTest {
    private static final Checks CHECKS = new Checks();

    public static void main(String[] args) {
        wrongInputs();
        examples();
        Random random = new Random(11);
        for (int round = 0; round < 4000; round++) {
            randomCans(random);
        }
        CHECKS.end();
    }

    private static void due(String call, long got, long want) {
        CHECKS.due(call, got, want);
    }

    private static void wrongInputs() {
        TurnThird x = new TurnThird();
        int[][] wrong = {{-1, 0, 0, 0}, {17, 0, 0, 0}, {0, -1, 0, 0}, {0, 4, 0, 0},
            {0, 0, -1, 0}, {0, 0, 1000, 0}, {0, 0, 0, -1}, {0, 0, 0, 2}};
        for (int[] a : wrong) {
            due("can wrong", x.can(a[0], a[1], a[2], a[3]), TurnThird.BAD);
        }
        due("forget()", x.forget(), 0);
        for (int i = 1; i <= 6; i++) {
            due("can", x.can(16, 3, 999, 1), i);
        }
        due("a seventh", x.can(0, 0, 0, 0), TurnThird.FULL);
        due("a seventh, BAD first", x.can(0, 0, 0, 2), TurnThird.BAD);
        due("count(7)", x.count(7), 6);
        due("forget()", x.forget(), 6);
        due("count(7)", x.count(7), 0);
    }

    private static void examples() {
        TurnThird x = Checks.inCave("334r;245.;111r", 30, 25);
        x.goers(1);
        due("no CANS", x.turned(), 15);
        x.can(0, 0, 30, 0);
        due("all passed it going in", x.turned(), 15);
        x.can(1, 0, 27, 0);
        due("they came to 1 at least", x.turned(), 14);
        // Turned at 2: 5 in, 4 out to 1.
        x.can(1, 0, 21, 1);
        due("turned at 2", x.turned(), 4);
        x.can(0, 1, 13, 1);
        due("by a lamp of no GOER: 25 - 5 - 7", x.turned(), 4);
        x.can(2, 0, 25, 0);
        due("left so on the way in, where they turned", x.turned(), 4);
        x.can(3, 0, 24, 0);
        due("they came to 3", x.turned(), 0);
        x.forget();
        x.can(2, 0, 25, 1);
        due("on the way out, where they turned", x.turned(), 4);
        x.forget();
        x.can(4, 0, 25, 0);
        due("beyond the end", x.turned(), 0);
        x.forget();
        x.lamp(0, 3);
        x.can(0, 0, 0, 1);
        due("lamps do not go below 0", x.turned(), 0);
    }

    private static void randomCans(Random random) {
        int[][] parts = Checks.randomParts(random, random.nextInt(17));
        int[] burns = {300, 310, 320, 330};
        TurnThird x = Checks.inCave(Checks.caveText(parts), burns);
        x.goers(1 + random.nextInt(4));
        int turn = random.nextInt(parts.length + 1);
        int want = (1 << parts.length + 1) - 1;
        for (int i = random.nextInt(4); i > 0; i--) {
            int place = random.nextInt(turn + 1);
            int goer = random.nextInt(4);
            int way = random.nextInt(2);
            int left = burns[goer] - minutes(parts, turn, place, way) - (random.nextInt(9) == 0 ? 1 : 0);
            x.can(place, goer, left, way);
            for (int t = 0; t <= parts.length; t++) {
                if (t < place || burns[goer] - minutes(parts, t, place, way) != left) {
                    want &= ~(1 << t);
                }
            }
        }
        due("turned()", x.turned(), want);
    }

    private static int minutes(int[][] parts, int turn, int place, int way) {
        int sum = 0;
        for (int i = 0; i < (way == 0 ? place : turn); i++) {
            sum += parts[i][0];
        }
        for (int i = turn - 1; way == 1 && i >= place; i--) {
            sum += parts[i][1];
        }
        return sum;
    }
}
