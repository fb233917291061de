import java.util.ArrayList;
import java.util.List;
import java.util.Random;

/**
 * 'They change nothing (FINDINGS but count() 8).' Two objects are brought to the same state, one is asked for what is
 * refused (or for what only tells), and then both are looked through, down to their last byte, way and item.
 */
public final class RefusalTest {
    private static final Checks CHECKS = new Checks();
    private static final int NOT = TurnThird.NOT, FULL = TurnThird.FULL;
    private static final int LEAST = Integer.MIN_VALUE, MOST = Integer.MAX_VALUE;
    private static final int NULL = -11, INDEX = -12, CAST = -13, STORE = -14, SIZE = -15;
    private static final int[] EDGES = {LEAST, -1000, -2, -1, 0, 1, 2, 3, 4, 5, 6, 7, 9, 10, 11, 15, 16, 17, 40, 59, 60,
        61, 79, 80, 98, 99, 100, 255, 256, 998, 999, 1000, MOST};

    /** A face call by its name and numbers, so that it can be told, varied and played again. */
    private record Asked(String name, int... a) implements Subject.Call {
        @Override
        public long on(TurnThird x) {
            switch (name) {
                case "type": return x.type(a[0], a[1]);
                case "wipe": return x.wipe(a[0]);
                case "undo": return x.undo(a[0]);
                case "fault": return x.fault(a[0]);
                case "part": return x.part(a[0], a[1]);
                case "goers": return x.goers(a[0]);
                case "lamp": return x.lamp(a[0], a[1]);
                case "read": return x.read(a[0]);
                case "far": return x.far(a[0], a[1]);
                case "safe": return x.safe(a[0], a[1]);
                case "rule": return x.rule(a[0], a[1], a[2]);
                case "point": return x.point(a[0]);
                case "judged": return x.judged();
                case "state": return x.state(a[0], a[1]);
                case "left": return x.left(a[0], a[1]);
                case "home": return x.home();
                case "unlit": return x.unlit(a[0], a[1], a[2]);
                case "help": return x.help(a[0], a[1], a[2]);
                case "least": return x.least(a[0], a[1]);
                case "side": return x.side(a[0], a[1]);
                case "gone": return x.gone();
                case "first": return x.first(a[0]);
                case "mean": return x.mean(a[0]);
                case "can": return x.can(a[0], a[1], a[2], a[3]);
                case "forget": return x.forget();
                case "turned": return x.turned();
                case "sheet": return x.sheet(a[0], a[1], a[2]);
                case "lose": return x.lose(a[0]);
                case "lay": return x.lay(a[0], a[1], a[2], a[3]);
                case "get": return x.get(a[0], a[1], a[2]);
                case "copy": return x.copy(a[0], a[1], a[2], a[3], a[4]);
                case "write": return x.write(a[0]);
                case "count": return x.count(a[0]);
                case "digest": return x.digest();
                default: throw new IllegalArgumentException(name);
            }
        }

        Asked with(int at, int v) {
            int[] b = a.clone();
            b[at] = v;
            return new Asked(name, b);
        }

        String told() {
            StringBuilder text = new StringBuilder(name).append('(');
            for (int i = 0; i < a.length; i++) {
                text.append(i == 0 ? "" : ", ").append(a[i]);
            }
            return text.append(')').toString();
        }
    }

    /** The calls that only tell, each with the greatest number of each kind that any state takes. */
    private static final Asked[] TELLING = {
        new Asked("fault", 1), new Asked("part", 15, 3), new Asked("far", 3, 1), new Asked("safe", 3, 1),
        new Asked("rule", 9, 3, 2), new Asked("point", 1), new Asked("judged"), new Asked("state", 40, 1),
        new Asked("left", 40, 3), new Asked("home"), new Asked("unlit", 10, 3, 1), new Asked("help", 6, 999, 1),
        new Asked("least", 999, 999), new Asked("first", 5), new Asked("mean", 1), new Asked("turned"),
        new Asked("count", 8), new Asked("digest")};

    /** The calls that change, and get, which may find; with numbers that any state takes. */
    private static final Asked[] CHANGING = {
        new Asked("type", 1, 255), new Asked("wipe", 1), new Asked("undo", 1), new Asked("goers", 4),
        new Asked("lamp", 3, 999), new Asked("read", 3), new Asked("side", 16, 99), new Asked("gone"),
        new Asked("can", 16, 3, 999, 1), new Asked("forget"), new Asked("sheet", 3, 2, 60), new Asked("lose", 3),
        new Asked("lay", 3, 2, 0, 0), new Asked("get", 3, 2, 0), new Asked("copy", 3, 0, 3, 0, 0),
        new Asked("write", 3)};

    public static void main(String[] args) {
        CHECKS.sentence("They change nothing (FINDINGS but count() 8).");
        List<List<Asked>> states = List.of(newState(), plainState(), fullState(), faultyState());
        for (List<Asked> state : states) {
            badNumbers(state);
            lostSheets(state);
            tellingChangesNothing(state);
        }
        refusedByTheNew();
        refusedByThePlain();
        refusedByTheFull();
        refusedByTheFaulty();
        Random random = new Random(17);
        for (int round = 0; round < 1500; round++) {
            randomRun(random);
        }
        CHECKS.end();
    }

    private static List<Asked> newState() {
        return new ArrayList<>();
    }

    private static void typed(List<Asked> state, int text, String bytes) {
        for (int i = 0; i < bytes.length(); i++) {
            state.add(new Asked("type", text, bytes.charAt(i)));
        }
    }

    private static List<Asked> plainState() {
        List<Asked> state = newState();
        typed(state, 0, "334r;245.;111r;926.");
        typed(state, 1, "++u+x1u-");
        int[] burns = {30, 25, 40, 8};
        for (int goer = 0; goer < 4; goer++) {
            state.add(new Asked("lamp", goer, burns[goer]));
        }
        state.add(new Asked("goers", 3));
        state.add(new Asked("side", 4, 10));
        state.add(new Asked("side", 3, 5));
        state.add(new Asked("can", 1, 1, 22, 0));
        state.add(new Asked("can", 0, 3, 8, 0));
        state.add(new Asked("sheet", 0, 0, 3));
        state.add(new Asked("sheet", 1, 1, 60));
        state.add(new Asked("sheet", 2, 2, 0));
        state.add(new Asked("lay", 0, 0, 2, 77));
        state.add(new Asked("lay", 1, 1, 0, 500));
        state.add(new Asked("lay", 1, 1, 59, 501));
        return state;
    }

    /** Texts, SIDE WAYS, CANS and SHEETS that take no more; the latest FINDING was SIZE. */
    private static List<Asked> fullState() {
        List<Asked> state = newState();
        typed(state, 0, "123r;234.;345r;456r;567r;678r;789r;899r;199r;219.;311r;412.;513r;614.;715r;816.");
        typed(state, 1, "++++u+-----x3+++----x0++--++++----+-+-+-");
        for (int goer = 0; goer < 4; goer++) {
            state.add(new Asked("lamp", goer, 996 + goer));
        }
        for (int way = 0; way < 6; way++) {
            state.add(new Asked("side", way + (way == 5 ? 1 : 0), 9 + way));
            state.add(new Asked("can", way, way % 4, 996 + way % 4, 0));
        }
        for (int s = 0; s < 4; s++) {
            state.add(new Asked("sheet", s, s == 3 ? 0 : s, s == 3 ? 60 : 30 + s));
            state.add(new Asked("lay", s, s == 3 ? 0 : s, 29, 100 + s));
        }
        state.add(new Asked("sheet", 0, 0, -1));
        return state;
    }

    /** Both texts have a FAULT, and there is one GOER; the latest FINDING was INDEX. */
    private static List<Asked> faultyState() {
        List<Asked> state = newState();
        typed(state, 0, "334r;245.;1z1r");
        typed(state, 1, "++-x");
        state.add(new Asked("goers", 1));
        state.add(new Asked("lamp", 0, 0));
        state.add(new Asked("sheet", 1, 2, 1));
        state.add(new Asked("lay", 1, 2, 1, 5));
        return state;
    }

    private static Subject play(List<Asked> state) {
        Subject subject = new Subject();
        for (Asked call : state) {
            subject.ask(call);
        }
        return subject;
    }

    /** Behind the call all is as without it, but for count() 8, which is what it was if none is found. */
    private static void changesNothing(List<Asked> state, Asked call, long want, int finding) {
        for (int look = 0; look < 3; look++) {
            Subject asked = play(state);
            Subject twin = play(state);
            if (look == 0) {
                long before = twin.ask(new Asked("count", 8));
                CHECKS.due(call.told(), asked.ask(call), want);
                CHECKS.due("count(8) behind " + call.told(), asked.ask(new Asked("count", 8)),
                        finding == 0 ? before : finding);
            } else {
                asked.ask(call);
            }
            boolean same = look(asked, look).equals(look(twin, look));
            CHECKS.holds("all is as it was behind " + call.told() + " (look " + look + ")", same);
        }
    }

    private static List<Long> look(Subject subject, int look) {
        List<Long> seen = new ArrayList<>();
        if (look == 0) {
            lookThroughAnswers(subject, seen);
        } else if (look == 1) {
            lookThroughTexts(subject, seen);
        } else {
            lookThroughSheets(subject, seen);
        }
        return seen;
    }

    private static long see(Subject subject, List<Long> seen, String name, int... a) {
        long answer = subject.ask(new Asked(name, a));
        seen.add(answer);
        return answer;
    }

    private static void lookThroughAnswers(Subject subject, List<Long> seen) {
        see(subject, seen, "digest");
        for (int k = 0; k <= 40; k++) {
            see(subject, seen, "state", k, 0);
            see(subject, seen, "state", k, 1);
            see(subject, seen, "left", k, 0);
            see(subject, seen, "left", k, 3);
        }
        see(subject, seen, "turned");
        see(subject, seen, "forget");
        for (int way = 0; way <= 6; way++) {
            see(subject, seen, "mean", 0);
            see(subject, seen, "mean", 1);
            see(subject, seen, "first", 2);
            see(subject, seen, "gone");
        }
        see(subject, seen, "goers", 4);
        for (int goer = 0; goer < 4; goer++) {
            see(subject, seen, "lamp", goer, 1);
        }
    }

    private static void lookThroughTexts(Subject subject, List<Long> seen) {
        for (int text = 0; text <= 1; text++) {
            long left = see(subject, seen, "count", 2 + text);
            while (left > 0) {
                left = see(subject, seen, "undo", text);
                see(subject, seen, "digest");
            }
        }
    }

    /** SIZE is found ahead of each look, so that count() 8 tells what the look finds. */
    private static void lookThroughSheets(Subject subject, List<Long> seen) {
        for (int s = 0; s < 4; s++) {
            for (int form = 0; form <= 2; form++) {
                subject.ask(new Asked("sheet", 0, 0, -1));
                see(subject, seen, "get", s, form, 0);
                long found = see(subject, seen, "count", 8);
                for (int i = 1; i < 60 && found == 5; i++) {
                    see(subject, seen, "get", s, form, i);
                }
            }
            see(subject, seen, "lose", s);
        }
    }

    private static boolean answersALong(Asked call) {
        return List.of("far", "safe", "rule", "point", "help", "mean", "digest").contains(call.name());
    }

    private static boolean isTelling(Asked call) {
        for (Asked telling : TELLING) {
            if (telling.name().equals(call.name())) {
                return true;
            }
        }
        return false;
    }

    private static void bad(List<Asked> state, Asked call) {
        long want = answersALong(call) ? Checks.BAD_LONG : call.name().equals("get") ? LEAST : TurnThird.BAD;
        changesNothing(state, call, want, 0);
    }

    /** Each number just too small and just too large, and at the ends of all ints, all others being well. */
    private static void badNumbers(List<Asked> state) {
        List<Asked> calls = new ArrayList<>(List.of(TELLING));
        calls.addAll(List.of(CHANGING));
        List<String> anyInt = List.of("lay2", "lay3", "get2", "copy1", "copy3", "copy4");
        for (Asked call : calls) {
            for (int at = 0; at < call.a().length; at++) {
                String number = call.name() + at;
                if (anyInt.contains(number)) {
                    continue;
                }
                bad(state, call.with(at, call.a()[at] + 1));
                bad(state, call.with(at, MOST));
                // A SHEET of less than 0 items is no BAD number, but SIZE.
                if (!number.equals("sheet2")) {
                    bad(state, call.with(at, smallest(number) - 1));
                    bad(state, call.with(at, LEAST));
                }
            }
        }
    }

    private static int smallest(String number) {
        if (number.equals("rule0")) {
            return 2;
        }
        return List.of("goers0", "help0", "help1", "least0", "least1", "side1").contains(number) ? 1 : 0;
    }

    private static void lostSheets(List<Asked> state) {
        for (int s = 0; s < 4; s++) {
            List<Asked> lost = new ArrayList<>(state);
            lost.add(new Asked("lose", s));
            changesNothing(lost, new Asked("read", s), NULL, 1);
            changesNothing(lost, new Asked("lose", s), NULL, 1);
            changesNothing(lost, new Asked("write", s), NULL, 1);
            changesNothing(lost, new Asked("lay", s, 1, -1, 7), NULL, 1);
            changesNothing(lost, new Asked("get", s, 1, -1), LEAST, 1);
            for (int t = 0; t < 4; t++) {
                changesNothing(lost, new Asked("copy", s, -1, t, -1, -1), NULL, 1);
                changesNothing(lost, new Asked("copy", t, -1, s, -1, -1), NULL, 1);
            }
            for (int n : new int[] {-1, LEAST}) {
                changesNothing(lost, new Asked("sheet", s, 1, n), SIZE, 5);
                changesNothing(state, new Asked("sheet", s, 1, n), SIZE, 5);
            }
        }
    }

    private static void tellingChangesNothing(List<Asked> state) {
        for (Asked call : TELLING) {
            changesNothing(state, call, play(state).ask(call), 0);
            Asked least = call;
            for (int at = 0; at < call.a().length; at++) {
                least = least.with(at, call.name().equals("rule") && at == 0 ? 2 : 0);
            }
            changesNothing(state, least, play(state).ask(least), 0);
        }
    }

    private static void refusedByTheNew() {
        List<Asked> state = newState();
        changesNothing(state, new Asked("undo", 0), NOT, 0);
        changesNothing(state, new Asked("undo", 1), NOT, 0);
        changesNothing(state, new Asked("gone"), NOT, 0);
        bad(state, new Asked("part", 0, 0));
        bad(state, new Asked("state", 1, 0));
        bad(state, new Asked("left", 1, 0));
        bad(state, new Asked("unlit", 1, 0, 0));
    }

    private static void refusedByThePlain() {
        List<Asked> state = plainState();
        bad(state, new Asked("part", 4, 0));
        bad(state, new Asked("far", 3, 0));
        bad(state, new Asked("safe", 3, 0));
        bad(state, new Asked("rule", 2, 3, 2));
        bad(state, new Asked("state", 9, 0));
        bad(state, new Asked("left", 9, 0));
        bad(state, new Asked("left", 8, 3));
        bad(state, new Asked("unlit", 5, 0, 0));
        bad(state, new Asked("unlit", 4, 3, 0));
        changesNothing(state, new Asked("side", 10, 1), FULL, 0);
        itemsRefused(state, 0, 0, 3);
        itemsRefused(state, 1, 1, 60);
        itemsRefused(state, 2, 2, 0);
        for (int s = 0; s < 3; s++) {
            int n = s == 0 ? 3 : s == 1 ? 60 : 0;
            int[][] ranges = {{-1, 0, 1}, {0, -1, 1}, {0, 0, -1}, {0, 0, n + 1}, {n, 0, 1}, {0, n, 1}, {n + 1, 0, 0},
                {0, n + 1, 0}, {MOST, 0, MOST}, {0, MOST, MOST}, {LEAST, LEAST, LEAST}};
            for (int[] a : ranges) {
                changesNothing(state, new Asked("copy", s, a[0], s, a[1], a[2]), INDEX, 2);
                changesNothing(state, new Asked("copy", s, a[0], (s + 1) % 3, a[1], a[2]), STORE, 4);
            }
            changesNothing(state, new Asked("copy", s, 0, (s + 2) % 3, 0, 0), STORE, 4);
        }
    }

    private static void itemsRefused(List<Asked> state, int s, int form, int n) {
        for (int i : new int[] {LEAST, -1, n, n + 1, MOST}) {
            changesNothing(state, new Asked("lay", s, form, i, 9), INDEX, 2);
            changesNothing(state, new Asked("get", s, form, i), LEAST, 2);
            for (int other = 0; other <= 2; other++) {
                if (other != form) {
                    changesNothing(state, new Asked("lay", s, other, i, 9), CAST, 3);
                    changesNothing(state, new Asked("get", s, other, i), LEAST, 3);
                    changesNothing(state, new Asked("lay", s, other, 0, 9), CAST, 3);
                }
            }
        }
    }

    private static void refusedByTheFull() {
        List<Asked> state = fullState();
        CHECKS.due("it is full", play(state).ask(new Asked("count", 2)), 79);
        CHECKS.due("it is full", play(state).ask(new Asked("count", 1)), 40);
        for (int b : new int[] {0, ';', '1', '+', 255}) {
            changesNothing(state, new Asked("type", 0, b), FULL, 0);
            changesNothing(state, new Asked("type", 1, b), FULL, 0);
        }
        changesNothing(state, new Asked("side", 0, 1), FULL, 0);
        changesNothing(state, new Asked("side", 16, 99), FULL, 0);
        changesNothing(state, new Asked("can", 0, 0, 0, 0), FULL, 0);
        changesNothing(state, new Asked("can", 16, 3, 999, 1), FULL, 0);
        bad(state, new Asked("part", 16, 0));
        bad(state, new Asked("unlit", 11, 0, 0));
        bad(state, new Asked("state", 41, 0));
        itemsRefused(state, 3, 0, 60);
    }

    private static void refusedByTheFaulty() {
        List<Asked> state = faultyState();
        bad(state, new Asked("part", 0, 0));
        bad(state, new Asked("state", 1, 0));
        bad(state, new Asked("left", 1, 0));
        bad(state, new Asked("unlit", 1, 0, 0));
        bad(state, new Asked("far", 1, 0));
        bad(state, new Asked("safe", 1, 0));
        bad(state, new Asked("rule", 2, 1, 0));
        changesNothing(state, new Asked("gone"), NOT, 0);
    }

    private static Asked randomCall(Random random) {
        Asked[] from = random.nextInt(4) == 0 ? TELLING : CHANGING;
        Asked call = from[random.nextInt(from.length)];
        if (call.name().equals("wipe") && random.nextInt(4) != 0) {
            call = new Asked("type", 0, 0);
        }
        for (int at = 0; at < call.a().length; at++) {
            boolean atEdge = random.nextInt(5) == 0;
            call = call.with(at, atEdge ? EDGES[random.nextInt(EDGES.length)] : random.nextInt(random.nextInt(6) + 1));
        }
        if (call.name().equals("type") && random.nextInt(8) != 0) {
            int text = random.nextInt(2);
            String bytes = text == 0 ? "123456789r.;" : "+-ux0123++-";
            call = new Asked("type", text, bytes.charAt(random.nextInt(bytes.length())));
        }
        return call;
    }

    /** Any numbers in any state: no call throws, and what is refused changes nothing. */
    private static void randomRun(Random random) {
        List<Asked> state = random.nextInt(3) == 0 ? newState() : random.nextBoolean() ? plainState() : faultyState();
        Subject subject = play(state);
        int n = random.nextInt(40);
        for (int i = 0; i < n; i++) {
            Asked call = randomCall(random);
            state.add(call);
            subject.ask(call);
        }
        Asked last = randomCall(random);
        long before = subject.ask(new Asked("count", 8));
        long answer = subject.ask(last);
        long behind = subject.ask(new Asked("count", 8));
        if (isTelling(last)) {
            changesNothing(state, last, answer, 0);
        } else if (last.name().equals("get")) {
            changesNothing(state, last, answer, (int) behind);
        } else if (answer < TurnThird.NONE) {
            changesNothing(state, last, answer, answer <= NULL ? (int) (-10 - answer) : 0);
        } else {
            CHECKS.due("count(8) behind " + last.told(), behind, before);
        }
    }
}
