/** The boundary cases of helpers, SIDE WAYS and CANS, sentence by sentence: promises 19 to 27. */
public final class HelperBoundsTest {
    private static final Checks CHECKS = new Checks();
    private static final int NONE = TurnThird.NONE, BAD = TurnThird.BAD, NOT = TurnThird.NOT, FULL = TurnThird.FULL;
    private static final int LEAST = Integer.MIN_VALUE, MOST = Integer.MAX_VALUE;

    public static void main(String[] args) {
        helpersFromOneToSix();
        helpRefused();
        leastJustSo();
        leastRefused();
        sixSideWays();
        sixteenthsTogether();
        sideRefused();
        lastOneGone();
        whichFirst();
        meanOfAll();
        sixCans();
        canRefused();
        forgotten();
        theyCameSoFar();
        itWasLeftSo();
        turnedByAll();
        CHECKS.end();
    }

    private static void says(String sentence) {
        CHECKS.sentence(sentence);
    }

    private static void due(String call, long got, long want) {
        CHECKS.due(call, got, want);
    }

    private static void helpDue(int n, int c, long above, long below) {
        TurnThird x = new TurnThird();
        due("help(" + n + ", " + c + ", 0)", x.help(n, c, 0), above);
        due("help(" + n + ", " + c + ", 1)", x.help(n, c, 1), below);
    }

    private static void helpersFromOneToSix() {
        says("HELP: n (1 to 6) like goers of C (1 to 999) each; light is used alike in and out. All go in; when one can "
                + "just fill all others' lamps again and has what it takes it out, it does, and turns; so on; the last "
                + "goes on till it must turn: how far it comes (in minutes): a FRACTION.");
        helpDue(1, 1, 1, 2);
        helpDue(1, 2, 1, 1);
        helpDue(1, 999, 999, 2);
        // Two of 60: behind 20 one has 40, of which 20 fill the other and 20 take it out; 60 last for 20 more.
        helpDue(2, 60, 40, 1);
        // Three of 60: behind 15 one has 45, and fills two; at 15, behind 15 more, the next has 45: 15 and 30.
        helpDue(3, 60, 45, 1);
        helpDue(4, 60, 48, 1);
        helpDue(5, 60, 50, 1);
        helpDue(6, 60, 360, 7);
        helpDue(6, 1, 6, 7);
        helpDue(6, 7, 6, 1);
        helpDue(6, 999, 5994, 7);
    }

    private static void helpRefused() {
        says("HELP: above, below. BAD. (As the least long.)");
        TurnThird x = new TurnThird();
        for (int n : new int[] {LEAST, -1, 0, 1, 6, 7, MOST}) {
            for (int c : new int[] {LEAST, -1, 0, 1, 999, 1000, MOST}) {
                for (int what : new int[] {LEAST, -1, 0, 1, 2, MOST}) {
                    boolean known = n >= 1 && n <= 6 && c >= 1 && c <= 999 && (what == 0 || what == 1);
                    // None of 1 and 999 times 1 and 6 has a divisor in common with 2 and 7.
                    due("help(" + n + ", " + c + ", " + what + ")", x.help(n, c, what),
                            !known ? Checks.BAD_LONG : what == 0 ? (long) n * c : n + 1);
                }
            }
        }
    }

    private static void leastJustSo() {
        says("LEAST: the least n (1 to 6) by which that is L (1 to 999) or more; NONE.");
        TurnThird x = new TurnThird();
        int[][] wants = {{1, 1}, {30, 1}, {31, 2}, {40, 2}, {41, 3}, {45, 3}, {46, 4}, {48, 4}, {49, 5}, {50, 5},
            {51, 6}, {52, NONE}, {60, NONE}, {999, NONE}};
        for (int[] want : wants) {
            due("least(" + want[0] + ", 60)", x.least(want[0], 60), want[1]);
        }
        due("least(1, 1)", x.least(1, 1), NONE);
        due("least(1, 2)", x.least(1, 2), 1);
        due("least(499, 999)", x.least(499, 999), 1);
        due("least(500, 999)", x.least(500, 999), 2);
        due("least(856, 999)", x.least(856, 999), 6);
        due("least(857, 999)", x.least(857, 999), NONE);
        due("least(999, 1)", x.least(999, 1), NONE);
    }

    private static void leastRefused() {
        says("LEAST; NONE. BAD.");
        TurnThird x = new TurnThird();
        for (int far : new int[] {LEAST, -1, 0, 1, 999, 1000, MOST}) {
            for (int c : new int[] {LEAST, -1, 0, 2, 999, 1000, MOST}) {
                boolean known = far >= 1 && far <= 999 && c >= 1 && c <= 999;
                due("least(" + far + ", " + c + ")", x.least(far, c), !known ? BAD : far == 1 ? 1 : NONE);
            }
        }
    }

    private static void sixSideWays() {
        says("SIDE WAYS, 6 at most (0 on):");
        TurnThird x = new TurnThird();
        due("none at first", x.count(6), 0);
        for (int i = 1; i <= 6; i++) {
            due("side(0, 99)", x.side(0, 99), i);
            due("count(6)", x.count(6), i);
            due("first(" + (i - 1) + ")", x.first(i - 1), i - 1);
        }
        due("a seventh", x.side(0, 99), FULL);
        due("six stay", x.count(6), 6);
        due("their minutes stay", x.mean(0), 594);
        x.gone();
        due("a sixth again", x.side(0, 98), 6);
        due("with its own minutes", x.mean(0), 593);
    }

    private static void sixteenthsTogether() {
        says("all sixteenths together are 16 at most (else FULL).");
        for (int had = 0; had <= 16; had++) {
            TurnThird x = new TurnThird();
            x.side(had, 7);
            for (int more = 16; more > 16 - had; more--) {
                due("side(" + more + ", 1) behind " + had, x.side(more, 1), FULL);
            }
            due("nothing came", x.count(6), 1);
            due("nothing came", x.mean(0), 7);
            due("just so many", x.side(16 - had, 1), 2);
            due("one more", x.side(1, 1), FULL);
            due("none more", x.side(0, 1), 3);
        }
        TurnThird x = new TurnThird();
        for (int i = 1; i <= 5; i++) {
            x.side(3, 1);
        }
        due("of many together", x.side(2, 1), FULL);
        due("of many together", x.side(1, 1), 6);
        x.gone();
        x.gone();
        due("those that are gone do not count", x.side(5, 1), FULL);
        due("those that are gone do not count", x.side(4, 1), 5);
    }

    private static void sideRefused() {
        says("A SIDE WAY more: how many. BAD; FULL.");
        TurnThird full = new TurnThird();
        full.side(16, 1);
        for (int i = 0; i < 5; i++) {
            full.side(0, 1);
        }
        for (int sixteenths : new int[] {LEAST, -1, 0, 16, 17, MOST}) {
            for (int minutes : new int[] {LEAST, -1, 0, 1, 99, 100, MOST}) {
                boolean known = sixteenths >= 0 && sixteenths <= 16 && minutes >= 1 && minutes <= 99;
                String call = "side(" + sixteenths + ", " + minutes + ")";
                due(call, new TurnThird().side(sixteenths, minutes), known ? 1 : BAD);
                due(call + " of a full one", full.side(sixteenths, minutes), known ? FULL : BAD);
            }
        }
    }

    private static void lastOneGone() {
        says("The last SIDE WAY is gone: how many are left. NOT: there is none.");
        TurnThird x = new TurnThird();
        due("none at first", x.gone(), NOT);
        due("none comes of it", x.count(6), 0);
        for (int i = 1; i <= 6; i++) {
            x.side(i == 6 ? 5 : 1, i);
        }
        due("the first has most", x.first(0), 0);
        for (int left = 5; left >= 0; left--) {
            due("gone()", x.gone(), left);
            due("count(6)", x.count(6), left);
            due("the first stays", x.first(0), left == 0 ? NONE : 0);
            due("none behind the last", x.first(left), NONE);
        }
        due("none any more", x.gone(), NOT);
        x.side(1, 9);
        x.side(9, 1);
        due("the later one first", x.first(0), 1);
        x.gone();
        due("the last one is gone, not the one tried last", x.first(0), 0);
        due("its minutes stay", x.mean(0), 9);
    }

    private static void whichFirst() {
        says("FIRST: they are tried one by one, by sixteenths to a MINUTE, the greatest first, of like ones the least: "
                + "the i-th;");
        int[][][] cases = {
            {{1, 3}, {2, 6}, {3, 8}, {2, 0, 1}},
            {{1, 99}, {1, 98}, {1, 97}, {2, 1, 0}},
            {{0, 1}, {0, 99}, {1, 99}, {2, 0, 1}},
            {{2, 4}, {1, 2}, {4, 8}, {0, 1, 2}},
            {{1, 2}, {5, 9}, {5, 10}, {1, 0, 2}},
            {{0, 99}, {16, 99}, {0, 1}, {1, 0, 2}},
        };
        for (int[][] one : cases) {
            TurnThird x = new TurnThird();
            for (int i = 0; i < 3; i++) {
                x.side(one[i][0], one[i][1]);
            }
            for (int i = 0; i < 3; i++) {
                due("first(" + i + ")", x.first(i), one[3][i]);
            }
            due("none behind", x.first(3), NONE);
        }
        says("FIRST: the i-th (0 to 5; NONE). BAD.");
        TurnThird x = new TurnThird();
        for (int n = 0; n <= 6; n++) {
            for (int i : new int[] {LEAST, -1, 0, 1, 2, 3, 4, 5, 6, MOST}) {
                due("first(" + i + ") of " + n, x.first(i), i < 0 || i > 5 ? BAD : i < n ? i : NONE);
            }
            x.side(1, 50 + n);
        }
    }

    private static void meanDue(long above, long below, int... ways) {
        TurnThird x = new TurnThird();
        for (int i = 0; i + 1 < ways.length; i += 2) {
            x.side(ways[i], ways[i + 1]);
        }
        due("mean(0)", x.mean(0), above);
        due("mean(1)", x.mean(1), below);
    }

    private static void meanOfAll() {
        says("the mean of all MINUTES till it is found (those of the one where it is, too; all, where it is nowhere): "
                + "a FRACTION.");
        meanDue(0, 1);
        meanDue(99, 1, 16, 99);
        meanDue(99, 1, 0, 99);
        meanDue(1, 1, 1, 1);
        // 8 to be done by 1 minute, the others by 1 and 2.
        meanDue(2, 1, 8, 1, 0, 2);
        meanDue(3, 2, 8, 1, 8, 1);
        meanDue(594, 1, 0, 99, 0, 99, 0, 99, 0, 99, 0, 99, 0, 99);
        // Tried first: 15 of 16 by 1; else 1 and 99.
        meanDue(115, 16, 15, 1, 1, 99);
        meanDue(115, 16, 1, 99, 15, 1);
        meanDue(31, 16, 1, 1, 0, 1);
        says("The mean of all MINUTES: above, below. BAD. (As the least long.)");
        TurnThird x = new TurnThird();
        x.side(16, 99);
        for (int what : new int[] {LEAST, -1, 2, MOST}) {
            due("mean(" + what + ")", x.mean(what), Checks.BAD_LONG);
        }
    }

    private static void sixCans() {
        says("CANS, 6 at most:");
        TurnThird x = new TurnThird();
        due("none at first", x.count(7), 0);
        for (int i = 1; i <= 6; i++) {
            due("can", x.can(0, 0, 60, 0), i);
            due("count(7)", x.count(7), i);
        }
        due("a seventh", x.can(0, 0, 59, 0), FULL);
        due("six stay", x.count(7), 6);
        due("the seventh does not count", x.turned(), 1);
        x.forget();
        for (int i = 1; i <= 5; i++) {
            x.can(0, 0, 60, 0);
        }
        due("the sixth counts", x.can(0, 0, 59, 0), 6);
        due("the sixth counts", x.turned(), 0);
    }

    private static void canRefused() {
        says("A CAN more: how many. BAD (GOER 0 to 3); FULL.");
        int[][] edges = {{LEAST, -1, 0, 16, 17, MOST}, {LEAST, -1, 0, 3, 4, MOST}, {LEAST, -1, 0, 999, 1000, MOST},
            {LEAST, -1, 0, 1, 2, MOST}};
        TurnThird full = new TurnThird();
        for (int i = 0; i < 6; i++) {
            full.can(0, 0, 0, 0);
        }
        for (int place : edges[0]) {
            for (int goer : edges[1]) {
                for (int left : edges[2]) {
                    for (int way : edges[3]) {
                        boolean known = place >= 0 && place <= 16 && goer >= 0 && goer <= 3 && left >= 0
                                && left <= 999 && way >= 0 && way <= 1;
                        TurnThird x = new TurnThird();
                        x.goers(1);
                        String call = "can(" + place + ", " + goer + ", " + left + ", " + way + ")";
                        due(call, x.can(place, goer, left, way), known ? 1 : BAD);
                        due("count(7)", x.count(7), known ? 1 : 0);
                    }
                }
            }
        }
        int[][] wrong = {{-1, 0, 0, 0}, {17, 0, 0, 0}, {0, -1, 0, 0}, {0, 4, 0, 0}, {0, 0, -1, 0}, {0, 0, 1000, 0},
            {0, 0, 0, -1}, {0, 0, 0, 2}};
        for (int[] a : wrong) {
            due("BAD ahead of FULL", full.can(a[0], a[1], a[2], a[3]), BAD);
        }
        due("FULL", full.can(16, 3, 999, 1), FULL);
    }

    private static void forgotten() {
        says("All CANS are forgotten: how many.");
        for (int n = 0; n <= 6; n++) {
            TurnThird x = Checks.inCave("111r");
            for (int i = 0; i < n; i++) {
                x.can(16, 0, 0, 0);
            }
            due("turned()", x.turned(), n == 0 ? 3 : 0);
            due("forget()", x.forget(), n);
            due("count(7)", x.count(7), 0);
            due("turned()", x.turned(), 3);
            due("forget() again", x.forget(), 0);
            due("the first again", x.can(0, 0, 60, 0), 1);
        }
    }

    private static void turnedDue(TurnThird x, int place, int goer, int left, int way, int want) {
        x.forget();
        x.can(place, goer, left, way);
        due("turned() by can(" + place + ", " + goer + ", " + left + ", " + way + ")", x.turned(), want);
    }

    private static void theyCameSoFar() {
        says("by all CANS: they came so far; it was left so.");
        TurnThird x = Checks.inCave("111r;111r;111r", 60);
        int[] want = {15, 14, 12, 8, 0};
        for (int place = 0; place <= 4; place++) {
            turnedDue(x, place, 0, 60 - place, 0, want[place]);
        }
        turnedDue(x, 16, 0, 44, 0, 0);
        // Back at a PLACE: 2 minutes more for each PART that they went beyond it.
        turnedDue(x, 1, 0, 59, 1, 2);
        turnedDue(x, 1, 0, 57, 1, 4);
        turnedDue(x, 1, 0, 55, 1, 8);
        turnedDue(x, 1, 0, 53, 1, 0);
        turnedDue(x, 1, 0, 60, 1, 0);
        turnedDue(x, 0, 0, 60, 1, 1);
        turnedDue(x, 3, 0, 57, 1, 8);
        turnedDue(x, 4, 0, 56, 1, 0);
        x.wipe(0);
        turnedDue(x, 0, 0, 60, 0, 1);
        turnedDue(x, 0, 0, 60, 1, 1);
        turnedDue(x, 1, 0, 60, 0, 0);
    }

    private static void itWasLeftSo() {
        says("the lamp of one (0 to 3, a GOER that there is or not) had so much left (0 to 999), as they went in (0), "
                + "or out (1).");
        TurnThird x = Checks.inCave("349r;259r", 14, 999, 5, 4);
        x.goers(1);
        turnedDue(x, 2, 0, 9, 0, 4);
        turnedDue(x, 2, 0, 8, 0, 0);
        turnedDue(x, 2, 0, 10, 0, 0);
        turnedDue(x, 0, 0, 0, 1, 4);
        turnedDue(x, 0, 0, 7, 1, 2);
        turnedDue(x, 0, 0, 14, 1, 1);
        turnedDue(x, 1, 0, 4, 1, 4);
        turnedDue(x, 1, 0, 11, 1, 2);
        turnedDue(x, 0, 1, 999, 0, 7);
        turnedDue(x, 0, 1, 985, 1, 4);
        turnedDue(x, 2, 2, 0, 0, 4);
        turnedDue(x, 0, 3, 4, 0, 7);
        // A lamp of 4 has no minutes left there: 0 would be a minute too much.
        turnedDue(x, 2, 3, 0, 0, 0);
        x.lamp(0, 0);
        turnedDue(x, 0, 0, 0, 0, 7);
        turnedDue(x, 0, 0, 0, 1, 1);
    }

    private static void turnedByAll() {
        says("TURNED: PARTS 0 to all, at which they may have turned (all lamps going, m is 1, no plan), as bits,");
        for (int n = 0; n <= 16; n++) {
            TurnThird x = Checks.inCave("199r;".repeat(n).substring(0, Math.max(0, 5 * n - 1)), 999, 0, 0, 0);
            Checks.type(x, 1, "+x0x1x2x3");
            due("no CANS, " + n + " PARTS", x.turned(), (1 << n + 1) - 1);
            x.can(n, 0, 999 - n, 0);
            due("at the end", x.turned(), 1 << n);
            // OUT, not SHARED; lamps that THE PLAN lets fail go on.
            x.can(0, 0, 999 - 10 * n, 1);
            due("at the end, and out again", x.turned(), 1 << n);
            x.can(0, 0, 998 - 10 * n, 1);
            due("one CAN that is not so", x.turned(), 0);
        }
    }
}
