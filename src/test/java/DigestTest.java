import java.util.Random;

/** Promise 35, by the public calls in their order, on many states; and refusals that change nothing. */
public final class DigestTest {
    private static final Checks CHECKS = new Checks();
    private static final int[] EDGES = {Integer.MIN_VALUE, -1000, -2, -1, 0, 1, 2, 3, 4, 5, 6, 7, 9, 10, 11, 15, 16,
        17, 40, 59, 60, 61, 79, 80, 98, 99, 100, 255, 256, 998, 999, 1000, Integer.MAX_VALUE};

    public static void main(String[] args) {
        Random random = new Random(13);
        for (int round = 0; round < 300; round++) {
            randomState(random);
        }
        for (int round = 0; round < 400; round++) {
            randomCalls(random);
        }
        CHECKS.end();
    }

    private static long digestOf(TurnThird x) {
        StringBuilder values = new StringBuilder();
        for (int what = 0; what <= 7; what++) {
            values.append(x.count(what)).append(' ');
        }
        values.append(x.fault(0)).append(' ').append(x.fault(1)).append(' ');
        for (int i = 0; i < x.count(0); i++) {
            for (int what = 0; what <= 3; what++) {
                values.append(x.part(i, what)).append(' ');
            }
        }
        int all = x.count(1);
        for (int goer = 0; goer < x.count(4); goer++) {
            values.append(x.far(goer, 0)).append(' ').append(x.far(goer, 1)).append(' ');
            values.append(x.left(all, goer)).append(' ');
            values.append(x.unlit(3, goer, 0)).append(' ').append(x.unlit(3, goer, 1)).append(' ');
        }
        for (int f = 0; f <= 3; f++) {
            values.append(x.safe(f, 0)).append(' ').append(x.safe(f, 1)).append(' ');
            values.append(x.rule(3, f, 0)).append(' ').append(x.rule(3, f, 1)).append(' ');
            values.append(x.rule(3, f, 2)).append(' ');
        }
        values.append(x.point(0)).append(' ').append(x.point(1)).append(' ');
        values.append(x.judged()).append(' ').append(x.state(all, 0)).append(' ').append(x.state(all, 1)).append(' ');
        values.append(x.home()).append(' ').append(x.help(4, 60, 0)).append(' ').append(x.help(4, 60, 1)).append(' ');
        values.append(x.least(50, 60)).append(' ').append(x.first(0)).append(' ').append(x.first(1)).append(' ');
        values.append(x.mean(0)).append(' ').append(x.mean(1)).append(' ').append(x.turned());
        long h = 17;
        for (String value : values.toString().split(" ")) {
            h = 31 * h + Long.parseLong(value);
        }
        return h;
    }

    private static void randomState(Random random) {
        TurnThird x = Checks.inCave(Checks.caveText(Checks.randomParts(random, random.nextInt(17))));
        Checks.type(x, 1, Checks.randomPlan(random, 41));
        x.goers(1 + random.nextInt(4));
        for (int i = 0; i < 4; i++) {
            x.lamp(i, random.nextInt(random.nextBoolean() ? 60 : 1000));
            x.side(random.nextInt(6), 1 + random.nextInt(99));
        }
        x.can(random.nextInt(3), random.nextInt(4), random.nextInt(60), random.nextInt(2));
        if (random.nextInt(4) == 0) {
            x.type(random.nextInt(2), 'q');
        }
        CHECKS.due("digest()", x.digest(), digestOf(x));
    }

    private static String sheetsOf(TurnThird x) {
        StringBuilder items = new StringBuilder();
        for (int s = 0; s < 4; s++) {
            for (int form = 0; form < 3; form++) {
                for (int i = 0; i < 60; i++) {
                    items.append(x.get(s, form, i)).append(' ');
                }
            }
        }
        return items.toString();
    }

    /** Any numbers in any state: no call may throw, and a refusal changes nothing but count() 8. */
    private static void randomCalls(Random random) {
        TurnThird x = new TurnThird();
        for (int call = 0; call < 512; call++) {
            int which = random.nextInt(20);
            int[] a = new int[5];
            for (int i = 0; i < 5; i++) {
                a[i] = random.nextInt(3) == 0 ? EDGES[random.nextInt(EDGES.length)] : random.nextInt(8);
            }
            if (which == 0) {
                a[1] = "123456789r.;+-ux0123+-++".charAt(random.nextInt(24));
            }
            long before = x.digest();
            String sheets = sheetsOf(x);
            long answer = change(x, which, a);
            if (answer < TurnThird.NONE) {
                CHECKS.due("digest behind refusal of act " + which, x.digest(), before);
                CHECKS.holds("sheets behind refusal of act " + which, sheets.equals(sheetsOf(x)));
            }
            ask(x, a);
        }
        CHECKS.due("digest()", x.digest(), digestOf(x));
    }

    private static long change(TurnThird x, int which, int[] a) {
        switch (which) {
            case 0: case 1: case 2: return x.type(a[0], a[1]);
            case 3: return a[1] % 4 == 0 ? x.wipe(a[0]) : x.undo(a[0]);
            case 4: return x.goers(a[0]);
            case 5: return x.lamp(a[0], a[1]);
            case 6: return x.read(a[0]);
            case 7: return x.side(a[0], a[1]);
            case 8: return x.gone();
            case 9: return x.can(a[0], a[1], a[2], a[3]);
            case 10: return x.sheet(a[0], a[1], a[2]);
            case 11: return x.get(a[0], a[1], a[2]);
            case 12: return x.lose(a[0]);
            case 13: case 14: return x.lay(a[0], a[1], a[2], a[3]);
            case 15: case 16: return x.copy(a[0], a[1], a[2], a[3], a[4]);
            case 17: return x.write(a[0]);
            case 18: return a[0] == 0 ? x.forget() : x.turned();
            default: Checks.retype(x, 0, "334r;245.;111r;926."); return 0;
        }
    }

    private static void ask(TurnThird x, int[] a) {
        x.fault(a[0]);
        x.part(a[0], a[1]);
        x.far(a[0], a[1]);
        x.safe(a[0], a[1]);
        x.rule(a[0], a[1], a[2]);
        x.point(a[0]);
        x.state(a[0], a[1]);
        x.left(a[0], a[1]);
        x.unlit(a[0], a[1], a[2]);
        x.help(a[0], a[1], a[2]);
        x.least(a[0], a[1]);
        x.first(a[0]);
        x.mean(a[0]);
        x.count(a[0]);
    }
}
