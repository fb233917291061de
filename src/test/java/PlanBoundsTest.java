/** The boundary cases of THE PLAN and of UNLIT, sentence by sentence: promises 14 to 18. */
public final class PlanBoundsTest {
    private static final Checks CHECKS = new Checks();
    private static final int NONE = TurnThird.NONE, BAD = TurnThird.BAD;
    private static final int LEAST = Integer.MIN_VALUE, MOST = Integer.MAX_VALUE;

    public static void main(String[] args) {
        nextStepUnlit();
        unlitByARope();
        lampJustLasts();
        lookedAtAnew();
        noneGoes();
        neverAgain();
        goerThatThereIsNot();
        beyondTheEnds();
        firstThatCannotBe();
        behindSoManyBytes();
        leftRefused();
        homeOrNot();
        unlitSoFar();
        unlitJustLasts();
        unlitLeast();
        unlitRefused();
        CHECKS.end();
    }

    private static void says(String sentence) {
        CHECKS.sentence(sentence);
    }

    private static void due(String call, long got, long want) {
        CHECKS.due(call, got, want);
    }

    private static TurnThird planned(String cave, String plan, int... burns) {
        TurnThird x = Checks.inCave(cave, burns);
        x.goers(burns.length);
        Checks.type(x, 1, plan);
        return x;
    }

    /** At the end of THE PLAN: JUDGED, where they are, minutes, what each lamp has left. */
    private static void endDue(TurnThird x, int judged, int depth, int minutes, int... left) {
        int all = x.count(1);
        due("judged()", x.judged(), judged);
        due("state(all, 0)", x.state(all, 0), depth);
        due("state(all, 1)", x.state(all, 1), minutes);
        for (int goer = 0; goer < left.length; goer++) {
            due("left(all, " + goer + ")", x.left(all, goer), left[goer]);
        }
    }

    private static void nextStepUnlit() {
        says("u: the next step is gone unlit.");
        endDue(planned("345r;345r", "u++", 60), NONE, 2, 9, 57);
        endDue(planned("345r;345r", "+u+", 60), NONE, 2, 9, 57);
        endDue(planned("345r;345r", "u+u+", 60), NONE, 2, 12, 60);
        endDue(planned("345r;345r", "uu++", 60), NONE, 2, 9, 57);
        endDue(planned("345r;345r", "ux0+", 60), NONE, 1, 6, 0);
        endDue(planned("345r;345r", "++u", 60), NONE, 2, 6, 54);
        endDue(planned("345r;345r", "u", 60), NONE, 0, 0, 60);
    }

    private static void unlitByARope() {
        says("Unlit: the PART must have a rope; it takes 2 times IN, or OUT; no lamp burns.");
        endDue(planned("345r", "u+u-", 1, 0), NONE, 0, 14, 1, 0);
        endDue(planned("345.", "u+", 60), 1, 0, 0, 60);
        endDue(planned("345.;345r", "+u+u-u-", 60), 6, 1, 17, 57);
        endDue(planned("345r;345.", "u+u+", 60), 3, 1, 6, 60);
        // SHARED is for those who go by a light.
        endDue(planned("345r", "+x0x1x2u-", 60, 60, 60, 60), NONE, 0, 11, 0, 0, 0, 57);
        endDue(planned("345r", "x0u+u-", 60), NONE, 0, 14, 0);
    }

    private static void lampJustLasts() {
        says("a lamp that has less left than the step takes (by m to a light, as long as all such go) is out ahead "
                + "of it,");
        endDue(planned("345r", "+", 3, 4), NONE, 1, 3, 0, 1);
        endDue(planned("345r", "+", 2, 3), NONE, 1, 3, 0, 0);
        endDue(planned("345r", "+", 2, 2), 0, 0, 0, 0, 0);
        endDue(planned("345r", "+-", 7, 7), NONE, 0, 7, 0, 0);
        endDue(planned("345r", "+-", 6, 8), NONE, 0, 8, 0, 0);
        endDue(planned("345r", "+-", 6, 7), 1, 1, 3, 0, 0);
        // Out just as the step begins is not out in it: with 0 left it still counts as one till a step.
        TurnThird x = planned("345r", "+-", 3, 60);
        due("0 left behind its last step", x.left(1, 0), 0);
        endDue(x, NONE, 0, 8, 0, 52);
    }

    private static void lookedAtAnew() {
        says("and m is looked at anew, till all that go last; they burn as long as it takes;");
        // Out: 1 by four lamps, 2 by two or three, 6 by one; 1 in ahead of it.
        endDue(planned("112r", "+-", 1, 2, 3, 9), NONE, 0, 3, 0, 0, 0, 6);
        endDue(planned("112r", "+-", 1, 2, 2, 7), NONE, 0, 7, 0, 0, 0, 0);
        endDue(planned("112r", "+-", 1, 2, 2, 6), 1, 1, 1, 0, 0, 0, 0);
        endDue(planned("112r", "+-", 2, 2, 2, 2), NONE, 0, 2, 0, 0, 0, 0);
        endDue(planned("112r", "+-", 1, 3, 3, 3), NONE, 0, 3, 0, 0, 0, 0);
        endDue(planned("112r", "+-", 1, 2, 3, 3), NONE, 0, 3, 0, 0, 0, 0);
        endDue(planned("112r", "+-", 1, 1, 3, 2), 1, 1, 1, 0, 0, 0, 0);
        endDue(planned("112r", "+-", 9, 3, 2, 1), NONE, 0, 3, 6, 0, 0, 0);
        // Of three: 1 by three lamps, 2 by two, 4 by one.
        endDue(planned("112r", "+-", 1, 2, 5), NONE, 0, 5, 0, 0, 0);
        endDue(planned("112r", "+-", 1, 2, 4), 1, 1, 1, 0, 0, 0);
        // In takes IN by however many lamps.
        endDue(planned("912r", "x0x1x2+", 60, 60, 60, 9), NONE, 1, 9, 0, 0, 0, 0);
    }

    private static void noneGoes() {
        says("if none goes the step cannot be (they are out all the same).");
        endDue(planned("511r", "+", 4, 3, 0), 0, 0, 0, 0, 0, 0);
        endDue(planned("511r", "x0+", 60), 2, 0, 0, 0);
        TurnThird x = planned("155r;111r", "+-+", 5);
        endDue(x, 1, 1, 1, 0);
        due("before it", x.left(1, 0), 4);
        due("behind it", x.left(2, 0), 0);
        due("where they are stays", x.state(3, 0), 1);
        x.lamp(0, 6);
        endDue(x, 2, 0, 6, 0);
    }

    private static void neverAgain() {
        says("A lamp that is out, or that fails (x), has 0 left, and never goes again;");
        // 5 is too long for lamp 0, and the 1 behind it would not be.
        endDue(planned("511r;111r", "++", 4, 9), NONE, 2, 6, 0, 3);
        endDue(planned("511r;111r", "x0x0+", 60, 60), NONE, 1, 5, 0, 55);
        endDue(planned("112r", "+x1-", 60, 60), NONE, 0, 3, 57, 0);
        endDue(planned("112r", "x0x1x2x3", 1, 2, 3, 4), NONE, 0, 0, 0, 0, 0, 0);
    }

    private static void goerThatThereIsNot() {
        says("one of a GOER that there is not fails for nothing.");
        for (int goers = 1; goers <= 4; goers++) {
            for (int failing = 0; failing <= 3; failing++) {
                TurnThird x = Checks.inCave("112r");
                x.goers(goers);
                Checks.type(x, 1, "x" + failing + "+-");
                boolean is = failing < goers;
                int all = goers == 1 && is ? 0 : is ? 3 : 2;
                due("x" + failing + " of " + goers, x.state(4, 1), all);
                due("judged", x.judged(), goers == 1 && is ? 2 : NONE);
                for (int goer = 0; goer < goers; goer++) {
                    due("left(4, " + goer + ")", x.left(4, goer), goer == failing ? 0 : 60 - all);
                }
            }
        }
    }

    private static void beyondTheEnds() {
        says("A step beyond the end of THE CAVE, or out of it, cannot be.");
        endDue(planned("111r;111r", "++", 60), NONE, 2, 2, 58);
        endDue(planned("111r;111r", "+++", 60), 2, 2, 2, 58);
        endDue(planned("111r;111r", "-", 60), 0, 0, 0, 60);
        endDue(planned("111r;111r", "+--", 60), 2, 0, 2, 58);
        endDue(planned("111r;111r", "u-", 60), 1, 0, 0, 60);
        endDue(planned("111r;111r", "++u+", 60), 3, 2, 2, 58);
        endDue(planned("", "+", 60), 0, 0, 0, 60);
        endDue(planned("", "-", 60), 0, 0, 0, 60);
        String sixteen = ("111r;".repeat(16)).substring(0, 79);
        endDue(planned(sixteen, "+".repeat(16), 60), NONE, 16, 16, 44);
        endDue(planned(sixteen, "+".repeat(17), 60), 16, 16, 16, 44);
        // No lamp is put out by a step that is nowhere.
        endDue(planned("911r", "-", 1), 0, 0, 0, 1);
    }

    private static void firstThatCannotBe() {
        says("JUDGED: the place of the first byte that cannot be; NONE; nothing comes of it, nor of what is behind it.");
        endDue(planned("111r;111.", "", 60), NONE, 0, 0, 60);
        TurnThird x = planned("111r;111.", "+u+x0--", 60, 50);
        endDue(x, 2, 1, 1, 59, 49);
        for (int k = 2; k <= 7; k++) {
            due("state(" + k + ", 0)", x.state(k, 0), 1);
            due("state(" + k + ", 1)", x.state(k, 1), 1);
            due("left(" + k + ", 0)", x.left(k, 0), 59);
        }
        endDue(planned("111r", "-+", 60), 0, 0, 0, 60);
        endDue(planned("111r", "x0u-x1", 60, 60), 3, 0, 0, 0, 60);
        String forty = "+-".repeat(20);
        endDue(planned("111r", forty, 60), NONE, 0, 40, 20);
        endDue(planned("111r", forty.substring(0, 39) + "+", 60), 39, 1, 39, 21);
    }

    private static void behindSoManyBytes() {
        says("Behind k bytes of THE PLAN: where they are (what = 0), minutes (1). BAD.");
        TurnThird x = planned("345r", "+-", 60);
        int[] where = {0, 1, 0};
        int[] minutes = {0, 3, 7};
        for (int k : new int[] {LEAST, -1, 0, 1, 2, 3, 40, 41, MOST}) {
            for (int what : new int[] {LEAST, -1, 0, 1, 2, MOST}) {
                boolean known = k >= 0 && k <= 2 && what >= 0 && what <= 1;
                due("state(" + k + ", " + what + ")", x.state(k, what),
                        !known ? BAD : what == 0 ? where[k] : minutes[k]);
            }
        }
        x = new TurnThird();
        due("of an empty PLAN", x.state(0, 0), 0);
        due("of an empty PLAN", x.state(1, 0), BAD);
        x = planned("111r", "+-".repeat(20), 60);
        due("of a full PLAN", x.state(40, 1), 40);
        due("of a full PLAN", x.state(41, 1), BAD);
        says("(x without its figure is not done yet)");
        x = planned("345r", "x0x1", 60, 50);
        int[][] left = {{60, 50}, {60, 50}, {0, 50}, {0, 50}, {0, 0}};
        for (int k = 0; k <= 4; k++) {
            due("left(" + k + ", 0)", x.left(k, 0), left[k][0]);
            due("left(" + k + ", 1)", x.left(k, 1), left[k][1]);
        }
    }

    private static void leftRefused() {
        says("What the lamp of a GOER has left behind k bytes. BAD.");
        for (int goers = 1; goers <= 4; goers++) {
            TurnThird x = Checks.inCave("345r");
            x.goers(goers);
            Checks.type(x, 1, "+");
            for (int k : new int[] {LEAST, -1, 0, 1, 2, 41, MOST}) {
                for (int goer : new int[] {LEAST, -1, 0, goers - 1, goers, 4, MOST}) {
                    boolean known = k >= 0 && k <= 1 && goer >= 0 && goer < goers;
                    due("left(" + k + ", " + goer + ")", x.left(k, goer), known ? 60 - 3 * k : BAD);
                }
            }
        }
    }

    private static void homeOrNot() {
        says("HOME: whether JUDGED is NONE and they are out at the end: 1, 0.");
        due("an empty PLAN", planned("111r", "", 60).home(), 1);
        due("no CAVE", new TurnThird().home(), 1);
        due("in", planned("111r", "+", 60).home(), 0);
        due("in and out", planned("111r", "+-", 60).home(), 1);
        due("out, but behind that a step cannot be", planned("111r", "+--", 60).home(), 0);
        due("out, and it could not go in", planned("911r", "+", 8).home(), 0);
        due("by lamps of 0, unlit", planned("911r", "u+u-", 0).home(), 1);
        due("lamps fail, out all the same", planned("111r", "+-x0", 60).home(), 1);
        due("lamps fail in it", planned("111r", "+x0-", 60).home(), 0);
        due("a lamp just lasts", planned("111r", "+-", 2).home(), 1);
        due("a lamp just does not", planned("111r", "+-", 1).home(), 0);
    }

    private static void unlitDue(TurnThird x, int k, int goer, int minutes, int bits) {
        due("unlit(" + k + ", " + goer + ", 0)", x.unlit(k, goer, 0), minutes);
        due("unlit(" + k + ", " + goer + ", 1)", x.unlit(k, goer, 1), bits);
    }

    private static void unlitSoFar() {
        says("UNLIT: to go in to k (0 to 10, of the PARTS that there are) PARTS and out again, alone by the lamp of "
                + "a GOER,");
        for (int n = 0; n <= 16; n++) {
            TurnThird x = Checks.inCave("111r;".repeat(n).substring(0, Math.max(0, 5 * n - 1)));
            for (int k = 0; k <= 10 && k <= n; k++) {
                unlitDue(x, k, 3, 2 * k, 0);
            }
            unlitDue(x, Math.min(10, n) + 1, 3, BAD, BAD);
        }
        // All ten gone unlit by a lamp that is empty; the eleventh PART is not looked at.
        TurnThird x = Checks.inCave("111r;".repeat(10) + "999.", 0, 1, 2, 19);
        unlitDue(x, 10, 0, 40, 1023);
        unlitDue(x, 10, 1, 40, 1023);
        unlitDue(x, 10, 2, 38, 511);
        unlitDue(x, 10, 3, 22, 1);
        unlitDue(x, 0, 0, 0, 0);
        // Alone: OUT, not SHARED.
        x = Checks.inCave("129.", 3);
        unlitDue(x, 1, 0, 3, 0);
    }

    private static void unlitJustLasts() {
        says("some PARTS (with ropes) gone unlit both ways, so that light lasts");
        TurnThird x = Checks.inCave("345r;122.;214r", 13, 12, 6, 5);
        unlitDue(x, 3, 0, 13, 0);
        unlitDue(x, 3, 1, 16, 4);
        unlitDue(x, 3, 2, 20, 1);
        unlitDue(x, 3, 3, 23, 5);
        x.lamp(0, 10);
        unlitDue(x, 3, 0, 16, 4);
        x.lamp(0, 9);
        unlitDue(x, 3, 0, 20, 1);
        x.lamp(0, 3);
        unlitDue(x, 3, 0, 23, 5);
        x.lamp(0, 2);
        unlitDue(x, 3, 0, NONE, NONE);
        x.lamp(0, 0);
        unlitDue(x, 3, 0, NONE, NONE);
        unlitDue(x, 1, 0, 14, 1);
        unlitDue(x, 2, 0, NONE, NONE);
        unlitDue(x, 0, 0, 0, 0);
    }

    private static void unlitLeast() {
        says("and minutes are least, of like ones the least bits: minutes; PARTS as bits; NONE.");
        // 2 and 2 are as long as 4; a lamp that lacks 4 takes the lesser bits, whichever these are.
        TurnThird x = Checks.inCave("111r;111r;222r", 4);
        unlitDue(x, 3, 0, 12, 3);
        x = Checks.inCave("222r;111r;111r", 4);
        unlitDue(x, 3, 0, 12, 1);
        x = Checks.inCave("111r;222r;111r", 4);
        unlitDue(x, 3, 0, 12, 2);
        x = Checks.inCave("111r;111r;111r", 5);
        unlitDue(x, 3, 0, 8, 1);
        x = Checks.inCave("111.;111r;111r", 5);
        unlitDue(x, 3, 0, 8, 2);
        // Least minutes go ahead of least bits.
        x = Checks.inCave("999r;111r", 19);
        unlitDue(x, 2, 0, 22, 2);
        x.lamp(0, 17);
        unlitDue(x, 2, 0, 38, 1);
    }

    private static void unlitRefused() {
        says("UNLIT: minutes (what = 0), PARTS as bits (1); NONE. BAD: also more PARTS than there are.");
        for (int goers = 1; goers <= 4; goers++) {
            TurnThird x = Checks.inCave("111.;111.");
            x.goers(goers);
            for (int k : new int[] {LEAST, -1, 0, 2, 3, 10, 11, MOST}) {
                for (int goer : new int[] {LEAST, -1, 0, goers - 1, goers, 4, MOST}) {
                    for (int what : new int[] {LEAST, -1, 0, 1, 2, MOST}) {
                        boolean known = k >= 0 && k <= 2 && goer >= 0 && goer < goers && what >= 0 && what <= 1;
                        due("unlit(" + k + ", " + goer + ", " + what + ")", x.unlit(k, goer, what),
                                !known ? BAD : what == 0 ? 2 * k : 0);
                    }
                }
            }
        }
        TurnThird x = Checks.inCave("111.", 1);
        due("BAD ahead of NONE", x.unlit(1, 0, 2), BAD);
        unlitDue(x, 1, 0, NONE, NONE);
    }
}
