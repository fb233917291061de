import java.util.Random;

/** Promise 35, by the public calls in their order, on many states. */
public final class DigestTest {
    private static final Checks CHECKS = new Checks();

    public static void main(String[] args) {
        Random random = new Random(13);
        for (int round = 0; round < 2000; round++) {
            randomState(random);
        }
        CHECKS.end();
    }

    private static long digestOf(TurnThird x) {
        StringBuilder values = new StringBuilder();
        for (int what = 0; what <= 7; what++) {
            values.append(x.count(what)).append(' ');
        }
        values.append(x.fault(0)).append(' ').append(x.fault(1)).append(' ');
        for (int i = 0; i < x.count(0); i++) {
            for (int what = 0; what <= 3; what++) {
                values.append(x.part(i, what)).append(' ');
            }
        }
        int all = x.count(1);
        for (int goer = 0; goer < x.count(4); goer++) {
            values.append(x.far(goer, 0)).append(' ').append(x.far(goer, 1)).append(' ');
            values.append(x.left(all, goer)).append(' ');
            values.append(x.unlit(3, goer, 0)).append(' ').append(x.unlit(3, goer, 1)).append(' ');
        }
        for (int f = 0; f <= 3; f++) {
            values.append(x.safe(f, 0)).append(' ').append(x.safe(f, 1)).append(' ');
            values.append(x.rule(3, f, 0)).append(' ').append(x.rule(3, f, 1)).append(' ');
            values.append(x.rule(3, f, 2)).append(' ');
        }
        values.append(x.point(0)).append(' ').append(x.point(1)).append(' ');
        values.append(x.judged()).append(' ').append(x.state(all, 0)).append(' ').append(x.state(all, 1)).append(' ');
        values.append(x.home()).append(' ').append(x.help(4, 60, 0)).append(' ').append(x.help(4, 60, 1)).append(' ');
        values.append(x.least(50, 60)).append(' ').append(x.first(0)).append(' ').append(x.first(1)).append(' ');
        values.append(x.mean(0)).append(' ').append(x.mean(1)).append(' ').append(x.turned());
        long h = 17;
        for (String value : values.toString().split(" ")) {
            h = 31 * h + Long.parseLong(value);
        }
        return h;
    }

    private static void randomState(Random random) {
        TurnThird x = Checks.inCave(Checks.caveText(Checks.randomParts(random, random.nextInt(17))));
        Checks.type(x, 1, Checks.randomPlan(random, 41));
        x.goers(1 + random.nextInt(4));
        for (int i = 0; i < 4; i++) {
            x.lamp(i, random.nextInt(random.nextBoolean() ? 60 : 1000));
            x.side(random.nextInt(6), 1 + random.nextInt(99));
        }
        x.can(random.nextInt(3), random.nextInt(4), random.nextInt(60), random.nextInt(2));
        if (random.nextInt(4) == 0) {
            x.type(random.nextInt(2), 'q');
        }
        CHECKS.due("digest()", x.digest(), digestOf(x));
    }
}
