/** The boundary cases of GOERS, lamps and how far they come, sentence by sentence: promises 7 to 13. */
public final class FarBoundsTest {
    private static final Checks CHECKS = new Checks();
    private static final int BAD = TurnThird.BAD;
    private static final int LEAST = Integer.MIN_VALUE, MOST = Integer.MAX_VALUE;

    public static void main(String[] args) {
        howManyGoers();
        whatALampBurns();
        readingLamps();
        toALight();
        lowestTerms();
        farOfOne();
        farRefused();
        safeOfAll();
        safeRefused();
        ruleByItsNumber();
        ruleAtTheEnd();
        ruleWhetherOut();
        ruleRefused();
        pointOnAndBack();
        refusalsOfLongs();
        CHECKS.end();
    }

    private static void says(String sentence) {
        CHECKS.sentence(sentence);
    }

    private static void due(String call, long got, long want) {
        CHECKS.due(call, got, want);
    }

    private static void farDue(TurnThird x, int goer, long above, long below) {
        due("far(" + goer + ", 0)", x.far(goer, 0), above);
        due("far(" + goer + ", 1)", x.far(goer, 1), below);
    }

    private static void safeDue(TurnThird x, int f, long above, long below) {
        due("safe(" + f + ", 0)", x.safe(f, 0), above);
        due("safe(" + f + ", 1)", x.safe(f, 1), below);
    }

    private static void ruleDue(TurnThird x, int r, int f, long above, long below, long out) {
        String call = "rule(" + r + ", " + f + ", ";
        due(call + "0)", x.rule(r, f, 0), above);
        due(call + "1)", x.rule(r, f, 1), below);
        due(call + "2)", x.rule(r, f, 2), out);
    }

    private static void pointDue(String cave, long above, long below) {
        TurnThird x = Checks.inCave(cave);
        due("point(0) of '" + cave + "'", x.point(0), above);
        due("point(1) of '" + cave + "'", x.point(1), below);
    }

    private static void howManyGoers() {
        says("GOERS are so many (1 to 4; 4 at first), 0 on;");
        TurnThird x = new TurnThird();
        due("at first", x.count(4), 4);
        due("goers(1)", x.goers(1), 4);
        due("goers(4)", x.goers(4), 1);
        says("How many GOERS: what it was. BAD.");
        for (int was = 1; was <= 4; was++) {
            x.goers(was);
            for (int n : new int[] {LEAST, -1, 0, 5, MOST}) {
                due("goers(" + n + ")", x.goers(n), BAD);
                due("GOERS stay", x.count(4), was);
            }
            due("goers(" + was + ") again", x.goers(was), was);
            due("the last GOER", x.left(0, was - 1), 60);
            due("no such GOER", x.left(0, was), BAD);
        }
    }

    private static void whatALampBurns() {
        says("each has a lamp that BURNS so many minutes (0 to 999; 60 at first).");
        TurnThird x = new TurnThird();
        for (int goer = 0; goer <= 3; goer++) {
            due("at first", x.lamp(goer, 0), 60);
            due("the least", x.lamp(goer, 999), 0);
            due("the most", x.lamp(goer, 60), 999);
        }
        says("What the lamp of a GOER (0 to 3) BURNS: what it was. BAD.");
        for (int goer = 0; goer <= 3; goer++) {
            for (int minutes : new int[] {LEAST, -1, 1000, MOST}) {
                due("lamp(" + goer + ", " + minutes + ")", x.lamp(goer, minutes), BAD);
            }
            due("what it BURNS stays", x.lamp(goer, 10 + goer), 60);
        }
        for (int goer : new int[] {LEAST, -1, 4, MOST}) {
            due("lamp(" + goer + ", 1)", x.lamp(goer, 1), BAD);
        }
        x.goers(1);
        due("of a GOER that there is not", x.lamp(3, 999), 13);
        x.goers(4);
        due("GOERS come and go, lamps stay", x.left(0, 3), 999);
        due("GOERS come and go, lamps stay", x.left(0, 2), 12);
    }

    private static void readingLamps() {
        says("Lamps of GOERS 0 on by a SHEET, item by item, as long as each may be, four at most: how many. BAD; NULL.");
        for (int n = 0; n <= 6; n++) {
            TurnThird x = new TurnThird();
            x.goers(1);
            x.sheet(3, 1, n);
            for (int i = 0; i < n; i++) {
                x.lay(3, 1, i, 100 + i);
            }
            due("read of " + n + " items", x.read(3), Math.min(4, n));
            for (int goer = 0; goer <= 3; goer++) {
                due("lamp " + goer + " of " + n, x.lamp(goer, 1), goer < n ? 100 + goer : 60);
            }
        }
        int[][] items = {{0, 1}, {999, 1}, {-1, 0}, {1000, 0}, {LEAST, 0}, {MOST, 0}};
        for (int[] item : items) {
            for (int at = 0; at <= 3; at++) {
                TurnThird x = new TurnThird();
                x.sheet(0, 2, 4);
                for (int i = 0; i <= 3; i++) {
                    x.lay(0, 2, i, i == at ? item[0] : 7);
                }
                due("read with " + item[0] + " at " + at, x.read(0), item[1] == 1 ? 4 : at);
                for (int goer = 0; goer <= 3; goer++) {
                    int want = item[1] == 0 && goer >= at ? 60 : goer == at ? item[0] : 7;
                    due("lamp " + goer + " with " + item[0] + " at " + at, x.left(0, goer), want);
                }
            }
        }
        TurnThird x = new TurnThird();
        x.sheet(0, 0, 3);
        x.lay(0, 0, 0, 127);
        x.lay(0, 0, 1, 128);
        due("a byte of 128 is below 0", x.read(0), 1);
        due("lamp 0", x.left(0, 0), 127);
        for (int s : new int[] {LEAST, -1, 4, MOST}) {
            due("read(" + s + ")", x.read(s), BAD);
        }
        due("BAD is no FINDING", x.count(8), 0);
        for (int s = 1; s <= 3; s++) {
            due("read of LOST", x.read(s), -11);
        }
        due("NULL", x.count(8), 1);
        due("lamps stay", x.left(0, 0), 127);
        due("lamps stay", x.left(0, 1), 60);
    }

    /** Out of a PART of 1, 2, 3: 2, or (m less 1) times 3; what a lamp just lasts for, and a minute less. */
    private static void toALight() {
        says("Where v lamps go there are m to a light, GOERS by v, cut up (5 by 2 is 3); a PART takes IN in, "
                + "and out OUT (m is 1), or m less 1 times SHARED.");
        int[][] m = {{1}, {1, 2}, {1, 2, 3}, {1, 2, 2, 4}};
        for (int goers = 1; goers <= 4; goers++) {
            for (int f = 0; f < goers; f++) {
                TurnThird x = Checks.inCave("123.");
                x.goers(goers);
                int toALight = m[goers - 1][f];
                int both = 1 + (toALight == 1 ? 2 : (toALight - 1) * 3);
                for (int goer = 0; goer < goers; goer++) {
                    x.lamp(goer, both);
                }
                safeDue(x, f, 1, 1);
                x.lamp(goers - 1, both - 1);
                safeDue(x, f, both - 1, both);
                x.lamp(goers - 1, both + 1);
                safeDue(x, f, 1, 1);
                stepsByFailing(goers, f, both);
            }
        }
    }

    private static void stepsByFailing(int goers, int f, int both) {
        TurnThird x = Checks.inCave("123.");
        x.goers(goers);
        Checks.type(x, 1, "+");
        for (int goer = 0; goer < f; goer++) {
            Checks.type(x, 1, "x" + goer);
        }
        Checks.type(x, 1, "-");
        due("minutes of " + goers + " with " + f + " failing", x.state(x.count(1), 1), both);
        due("left of " + goers + " with " + f + " failing", x.left(x.count(1), goers - 1), 60 - both);
    }

    private static void lowestTerms() {
        says("FRACTIONS are told in lowest terms, above and below (0 by 1).");
        TurnThird x = Checks.inCave("336.;336.");
        int[][] want = {{0, 1}, {1, 6}, {1, 3}, {1, 2}, {2, 3}, {5, 6}, {1, 1}, {7, 6}, {4, 3}, {3, 2}, {5, 3},
            {11, 6}, {2, 1}, {2, 1}};
        for (int minutes = 0; minutes < want.length; minutes++) {
            x.lamp(0, minutes);
            farDue(x, 0, want[minutes][0], want[minutes][1]);
        }
        x = new TurnThird();
        farDue(x, 0, 0, 1);
        safeDue(x, 0, 0, 1);
        ruleDue(x, 2, 0, 0, 1, 1);
        pointDue("", 0, 1);
        due("mean(0)", x.mean(0), 0);
        due("mean(1)", x.mean(1), 1);
        says("going some of a PART takes that share of its minutes.");
        x = Checks.inCave("123.;779.;999.", 10);
        farDue(x, 0, 3, 2);
        x.lamp(0, 4);
        farDue(x, 0, 15, 14);
        x.lamp(0, 16);
        farDue(x, 0, 27, 14);
    }

    private static void farOfOne() {
        says("FAR of a GOER: the farthest PLACE (the end of THE CAVE at most) to which it can go alone "
                + "and be out again by its own lamp.");
        TurnThird x = Checks.inCave("459r", 0, 8, 9, 10);
        farDue(x, 0, 0, 1);
        farDue(x, 1, 8, 9);
        farDue(x, 2, 1, 1);
        farDue(x, 3, 1, 1);
        x = Checks.inCave("459r;111.", 8, 9, 10, 11);
        farDue(x, 0, 8, 9);
        farDue(x, 1, 1, 1);
        farDue(x, 2, 3, 2);
        farDue(x, 3, 2, 1);
        x.lamp(3, 12);
        farDue(x, 3, 2, 1);
        x.lamp(3, 999);
        farDue(x, 3, 2, 1);
        x = Checks.inCave(("999.;".repeat(16)).substring(0, 79), 287, 288, 999, 1);
        farDue(x, 0, 287, 18);
        farDue(x, 1, 16, 1);
        farDue(x, 2, 16, 1);
        farDue(x, 3, 1, 18);
    }

    private static void farRefused() {
        says("FAR: above, below. BAD: no such GOER. (As the least long.)");
        for (int goers = 1; goers <= 4; goers++) {
            TurnThird x = Checks.inCave("111r");
            x.goers(goers);
            for (int goer : new int[] {LEAST, -1, 0, goers - 1, goers, 4, MOST}) {
                for (int what : new int[] {LEAST, -1, 0, 1, 2, MOST}) {
                    boolean known = goer >= 0 && goer < goers && what >= 0 && what <= 1;
                    due("far(" + goer + ", " + what + ")", x.far(goer, what), known ? 1 : Checks.BAD_LONG);
                }
            }
        }
    }

    private static void safeOfAll() {
        says("SAFE of f (0 to 3; less than GOERS): the farthest PLACE to which all can go, so that, if any f of the "
                + "lamps fail at any one place, all are out by the others, each of which lasts till then (the worst is "
                + "that f fail at the farthest, and the least one does not).");
        // Whichever lamp is the least one, it is the one that counts; one of no GOER does not.
        for (int weak = 0; weak <= 3; weak++) {
            TurnThird x = Checks.inCave("224.;222.", 60, 60, 60, 60);
            x.lamp(weak, 5);
            safeDue(x, 0, 5, 4);
            safeDue(x, 1, 5, 6);
            safeDue(x, 2, 5, 6);
            safeDue(x, 3, 5, 14);
            x.goers(3);
            boolean counts = weak < 3;
            safeDue(x, 0, counts ? 5 : 2, counts ? 4 : 1);
            safeDue(x, 1, counts ? 5 : 2, counts ? 6 : 1);
            safeDue(x, 2, counts ? 1 : 2, counts ? 2 : 1);
        }
        TurnThird x = Checks.inCave("111r;111r", 0, 999, 999, 999);
        for (int f = 0; f <= 3; f++) {
            safeDue(x, f, 0, 1);
        }
        x.lamp(0, 999);
        for (int f = 0; f <= 3; f++) {
            safeDue(x, f, 2, 1);
        }
        x.goers(1);
        x.lamp(0, 4);
        safeDue(x, 0, 2, 1);
        x.lamp(0, 3);
        safeDue(x, 0, 3, 2);
    }

    private static void safeRefused() {
        says("SAFE: above, below. BAD: also f that is not less than GOERS. (As the least long.)");
        for (int goers = 1; goers <= 4; goers++) {
            TurnThird x = Checks.inCave("111r");
            x.goers(goers);
            for (int f : new int[] {LEAST, -1, 0, goers - 1, goers, 4, MOST}) {
                for (int what : new int[] {LEAST, -1, 0, 1, 2, MOST}) {
                    boolean known = f >= 0 && f < goers && what >= 0 && what <= 1;
                    due("safe(" + f + ", " + what + ")", x.safe(f, what), known ? 1 : Checks.BAD_LONG);
                }
            }
        }
    }

    private static void ruleByItsNumber() {
        says("RULE r (2 to 9): all turn when an r-th of what the least lamp BURNS is over (or at the end of THE CAVE): "
                + "the PLACE;");
        TurnThird x = Checks.inCave("911.;911.", 60, 18, 60, 60);
        ruleDue(x, 2, 0, 1, 1, 1);
        ruleDue(x, 3, 0, 2, 3, 1);
        ruleDue(x, 4, 0, 1, 2, 1);
        ruleDue(x, 5, 0, 2, 5, 1);
        ruleDue(x, 6, 0, 1, 3, 1);
        ruleDue(x, 7, 0, 2, 7, 1);
        ruleDue(x, 8, 0, 1, 4, 1);
        ruleDue(x, 9, 0, 2, 9, 1);
        x.lamp(1, 17);
        ruleDue(x, 2, 0, 17, 18, 1);
        x.lamp(1, 19);
        ruleDue(x, 2, 0, 19, 18, 1);
        x.lamp(1, 0);
        ruleDue(x, 2, 3, 0, 1, 1);
        x.goers(1);
        x.lamp(0, 9);
        ruleDue(x, 9, 0, 1, 9, 1);
    }

    private static void ruleAtTheEnd() {
        says("(or at the end of THE CAVE)");
        TurnThird x = Checks.inCave("411.", 60, 60, 60, 7);
        ruleDue(x, 2, 0, 7, 8, 1);
        x.lamp(3, 8);
        ruleDue(x, 2, 0, 1, 1, 1);
        x.lamp(3, 9);
        ruleDue(x, 2, 0, 1, 1, 1);
        x.lamp(3, 35);
        ruleDue(x, 9, 0, 35, 36, 1);
        x.lamp(3, 36);
        ruleDue(x, 9, 0, 1, 1, 1);
        x.lamp(3, 37);
        ruleDue(x, 9, 0, 1, 1, 1);
        // At the end less than an r-th is over, which leaves more for the way out: 1 in, 9 out.
        x = Checks.inCave("199.", 60, 60, 60, 10);
        ruleDue(x, 2, 0, 1, 1, 1);
        x.lamp(3, 9);
        ruleDue(x, 2, 0, 1, 1, 0);
    }

    private static void ruleWhetherOut() {
        says("whether all are out if f fail there, the least one not: 1, 0.");
        // 3 in; out 3 by a light each, 3 by two to a light, 9 by four.
        TurnThird x = Checks.inCave("333.", 60, 60, 60, 60);
        int[][] wants = {{6, 1, 1, 1, 0}, {11, 1, 1, 1, 0}, {12, 1, 1, 1, 1}};
        for (int[] want : wants) {
            x.lamp(2, want[0]);
            for (int f = 0; f <= 3; f++) {
                ruleDue(x, 2, f, 1, 1, want[1 + f]);
            }
        }
        // A third in by IN 3 leaves two thirds, just enough for OUT 6, and not for 7, wherever they turn.
        for (int minutes = 1; minutes <= 99; minutes++) {
            TurnThird just = Checks.inCave("366.;366.;366.;366.;366.", minutes);
            TurnThird over = Checks.inCave("366.;366.;377.;366.;366.", minutes);
            TurnThird under = Checks.inCave("355.;366.;366.;366.;366.", minutes);
            just.goers(1);
            over.goers(1);
            under.goers(1);
            due("just, by " + minutes, just.rule(3, 0, 2), 1);
            // Behind 45 minutes all turn at the end; 45 and 1 last for what is 46 long.
            due("over, by " + minutes, over.rule(3, 0, 2), minutes <= 18 || minutes >= 46 ? 1 : 0);
            due("under, by " + minutes, under.rule(3, 0, 2), 1);
        }
        x = Checks.inCave("366.;366.;367.", 10, 10, 60, 60);
        x.goers(2);
        ruleDue(x, 3, 0, 10, 9, 1);
        ruleDue(x, 3, 1, 10, 9, 1);
        x = Checks.inCave("367.;366.;367.", 10, 10, 60, 60);
        x.goers(2);
        ruleDue(x, 3, 0, 10, 9, 1);
        ruleDue(x, 3, 1, 10, 9, 0);
    }

    private static void ruleRefused() {
        says("RULE: the PLACE above (what = 0), below (1), whether all are out (2). BAD: also f that is not less than "
                + "GOERS. (As the least long.)");
        for (int goers = 1; goers <= 4; goers++) {
            TurnThird x = Checks.inCave("111r");
            x.goers(goers);
            for (int r : new int[] {LEAST, -1, 0, 1, 2, 9, 10, MOST}) {
                for (int f : new int[] {LEAST, -1, 0, goers - 1, goers, 4, MOST}) {
                    for (int what : new int[] {LEAST, -1, 0, 1, 2, 3, MOST}) {
                        boolean known = r >= 2 && r <= 9 && f >= 0 && f < goers && what >= 0 && what <= 2;
                        due("rule(" + r + ", " + f + ", " + what + ")", x.rule(r, f, what),
                                known ? 1 : Checks.BAD_LONG);
                    }
                }
            }
        }
    }

    private static void pointOnAndBack() {
        says("POINT: the PLACE from which on to the end of THE CAVE (by IN) takes as long as back (by OUT).");
        pointDue("", 0, 1);
        pointDue("111r", 1, 2);
        pointDue("911r", 9, 10);
        pointDue("199r", 1, 10);
        pointDue("222.;211.", 1, 1);
        pointDue("233.;211.", 4, 5);
        pointDue("211.;211.", 4, 3);
        pointDue(("111r;".repeat(16)).substring(0, 79), 8, 1);
        pointDue(("911r;".repeat(16)).substring(0, 79), 72, 5);
        pointDue(("199r;".repeat(16)).substring(0, 79), 8, 5);
        says("POINT: above, below. BAD. (As the least long.)");
        TurnThird x = Checks.inCave("111r");
        for (int what : new int[] {LEAST, -1, 2, MOST}) {
            due("point(" + what + ")", x.point(what), Checks.BAD_LONG);
        }
        x.lamp(0, 0);
        x.goers(1);
        due("lamps do not count", x.point(0), 1);
        due("lamps do not count", x.point(1), 2);
    }

    private static void refusalsOfLongs() {
        says("Where the answer is a long, a refusal -x is the least long and x more.");
        TurnThird x = new TurnThird();
        long due = -9223372036854775806L;
        due("far", x.far(4, 0), due);
        due("safe", x.safe(4, 0), due);
        due("rule", x.rule(1, 0, 0), due);
        due("point", x.point(2), due);
        due("help", x.help(0, 1, 0), due);
        due("mean", x.mean(2), due);
    }
}
