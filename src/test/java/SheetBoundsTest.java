import java.math.BigInteger;

/** The boundary cases of SHEETS, FINDINGS and the digest, sentence by sentence: promises 28 to 35. */
public final class SheetBoundsTest {
    private static final Checks CHECKS = new Checks();
    private static final int BAD = TurnThird.BAD;
    private static final int LEAST = Integer.MIN_VALUE, MOST = Integer.MAX_VALUE;
    private static final int NULL = -11, INDEX = -12, CAST = -13, STORE = -14, SIZE = -15;

    public static void main(String[] args) {
        rowsOfForms();
        aNewRow();
        sheetRefused();
        losing();
        laying();
        lowestBits();
        getting();
        copying();
        copyWithinOne();
        copyRefused();
        writing();
        writeRefused();
        latestFinding();
        orderOfRefusals();
        digestWraps();
        digestOfRefusals();
        lastOfTheCalls();
        CHECKS.end();
    }

    private static void says(String sentence) {
        CHECKS.sentence(sentence);
    }

    private static void due(String call, long got, long want) {
        CHECKS.due(call, got, want);
    }

    private static void rowsOfForms() {
        says("SHEETS 0 .. 3 are LOST (at first) or a row of a FORM: 0 bytes, 1 shorts, 2 ints, of 0 to 60 items "
                + "(0 at first).");
        for (int s = 0; s <= 3; s++) {
            for (int form = 0; form <= 2; form++) {
                for (int n : new int[] {0, 1, 59, 60}) {
                    TurnThird x = new TurnThird();
                    due("sheet", x.sheet(s, form, n), n);
                    for (int i = 0; i < n; i++) {
                        due("item " + i, x.get(s, form, i), 0);
                    }
                    due("no FINDING", x.count(8), 0);
                    due("item " + n, x.lay(s, form, n, 1), INDEX);
                    due("other SHEETS are LOST", x.lose((s + 1) % 4), NULL);
                    due("lose", x.lose(s), n);
                }
            }
        }
    }

    private static void aNewRow() {
        says("A SHEET is a new row of a FORM with n items: n.");
        for (int form = 0; form <= 2; form++) {
            TurnThird x = new TurnThird();
            x.sheet(1, form, 60);
            for (int i = 0; i < 60; i++) {
                x.lay(1, form, i, 1 + i);
            }
            due("a lesser one", x.sheet(1, form, 30), 30);
            due("has no more items", x.lay(1, form, 30, 1), INDEX);
            x.lay(1, form, 29, 5);
            due("one of all items again", x.sheet(1, form, 60), 60);
            for (int i = 0; i < 60; i++) {
                due("item " + i, x.get(1, form, i), 0);
            }
        }
    }

    private static void sheetRefused() {
        says("A SHEET is a new row of a FORM with n items: n. BAD: SHEET, FORM, above 60; SIZE.");
        for (int s : new int[] {LEAST, -1, 0, 3, 4, MOST}) {
            for (int form : new int[] {LEAST, -1, 0, 2, 3, MOST}) {
                for (int n : new int[] {LEAST, -1, 0, 60, 61, MOST}) {
                    TurnThird x = new TurnThird();
                    boolean bad = s < 0 || s > 3 || form < 0 || form > 2 || n > 60;
                    due("sheet(" + s + ", " + form + ", " + n + ")", x.sheet(s, form, n), bad ? BAD : n < 0 ? SIZE : n);
                    due("count(8)", x.count(8), !bad && n < 0 ? 5 : 0);
                }
            }
        }
        TurnThird x = new TurnThird();
        x.sheet(2, 1, 2);
        x.lay(2, 1, 1, 9);
        due("SIZE", x.sheet(2, 2, -1), SIZE);
        due("above 60", x.sheet(2, 2, 61), BAD);
        due("the row stays", x.get(2, 1, 1), 9);
        due("a new row of it", x.sheet(2, 1, 2), 2);
        due("is all 0", x.get(2, 1, 1), 0);
        x.lay(2, 1, 1, 9);
        x.sheet(2, 2, 1);
        x.sheet(2, 2, 60);
        due("behind a short one all is 0", x.get(2, 2, 1), 0);
        due("another FORM", x.lay(2, 1, 0, 0), CAST);
        x.lose(2);
        x.sheet(2, 1, 2);
        due("behind a LOST one all is 0", x.get(2, 1, 1), 0);
    }

    private static void losing() {
        says("It is LOST: how many items it had. BAD; NULL.");
        TurnThird x = new TurnThird();
        for (int s : new int[] {LEAST, -1, 4, MOST}) {
            due("lose(" + s + ")", x.lose(s), BAD);
        }
        due("BAD is no FINDING", x.count(8), 0);
        for (int n : new int[] {0, 1, 60}) {
            x.sheet(3, 0, n);
            due("lose(3)", x.lose(3), n);
            due("lose(3) again", x.lose(3), NULL);
            due("count(8)", x.count(8), 1);
        }
    }

    private static TurnThird threeForms() {
        TurnThird x = new TurnThird();
        for (int form = 0; form <= 2; form++) {
            x.sheet(form, form, 5);
            for (int i = 0; i < 5; i++) {
                x.lay(form, form, i, 10 * form + i);
            }
        }
        return x;
    }

    /** The refusal that an item of threeForms() asks for; 1. */
    private static int lookDue(int s, int form, int i) {
        if (s < 0 || s > 3 || form < 0 || form > 2) {
            return BAD;
        }
        if (s == 3) {
            return NULL;
        }
        return form != s ? CAST : i < 0 || i > 4 ? INDEX : 1;
    }

    private static void laying() {
        says("Item i, treated as of a FORM, becomes v (the lowest bits that it has): 1. BAD; NULL; CAST; INDEX.");
        for (int s : new int[] {LEAST, -1, 0, 1, 2, 3, 4, MOST}) {
            for (int form : new int[] {LEAST, -1, 0, 1, 2, 3, MOST}) {
                for (int i : new int[] {LEAST, -1, 0, 4, 5, 59, 60, MOST}) {
                    TurnThird x = threeForms();
                    int want = lookDue(s, form, i);
                    due("lay(" + s + ", " + form + ", " + i + ", 99)", x.lay(s, form, i, 99), want);
                    due("count(8)", x.count(8), want <= NULL ? -10 - want : 0);
                    for (int t = 0; t <= 2; t++) {
                        for (int j = 0; j < 5; j++) {
                            boolean laid = want == 1 && t == s && j == i;
                            due("item " + j + " of " + t, x.get(t, t, j), laid ? 99 : 10 * t + j);
                        }
                    }
                }
            }
        }
    }

    private static void lowestBits() {
        says("becomes v (the lowest bits that it has)");
        TurnThird x = threeForms();
        int[][] wants = {{0, 0, 0}, {127, 127, 127}, {128, -128, 128}, {255, -1, 255}, {256, 0, 256},
            {-128, -128, -128}, {-129, 127, -129}, {32767, -1, 32767}, {32768, 0, -32768}, {65535, -1, -1},
            {65536, 0, 0}, {-32768, 0, -32768}, {-32769, -1, 32767}, {MOST, -1, -1}, {LEAST, 0, 0}};
        for (int[] want : wants) {
            for (int form = 0; form <= 2; form++) {
                due("lay", x.lay(form, form, 4, want[0]), 1);
                int kept = form == 2 ? want[0] : want[1 + form];
                due("item of FORM " + form + " that became " + want[0], x.get(form, form, 4), kept);
            }
        }
        due("no FINDING", x.count(8), 0);
    }

    private static void getting() {
        says("Item i of it. BAD: the least int; so are NULL, CAST, INDEX (count() 8 tells).");
        for (int s : new int[] {LEAST, -1, 0, 1, 2, 3, 4, MOST}) {
            for (int form : new int[] {LEAST, -1, 0, 1, 2, 3, MOST}) {
                for (int i : new int[] {LEAST, -1, 0, 4, 5, 59, 60, MOST}) {
                    TurnThird x = threeForms();
                    int want = lookDue(s, form, i);
                    due("get(" + s + ", " + form + ", " + i + ")", x.get(s, form, i), want == 1 ? 10 * s + i : LEAST);
                    due("count(8)", x.count(8), want <= NULL ? -10 - want : 0);
                }
            }
        }
        TurnThird x = threeForms();
        x.lay(2, 2, 0, LEAST);
        due("an item that is the least int", x.get(2, 2, 0), LEAST);
        due("is no FINDING", x.count(8), 0);
    }

    private static TurnThird twoAlike() {
        TurnThird x = new TurnThird();
        x.sheet(0, 1, 5);
        x.sheet(1, 1, 3);
        x.sheet(2, 2, 5);
        for (int i = 0; i < 5; i++) {
            x.lay(0, 1, i, 10 + i);
            x.lay(2, 2, i, 30 + i);
        }
        for (int i = 0; i < 3; i++) {
            x.lay(1, 1, i, 20 + i);
        }
        return x;
    }

    private static void rowDue(TurnThird x, int s, int form, int... want) {
        for (int i = 0; i < want.length; i++) {
            due("item " + i + " of " + s, x.get(s, form, i), want[i]);
        }
    }

    private static void copying() {
        says("n items of SHEET s, from i on, come to SHEET t (perhaps s, as they were), from j on: 1.");
        TurnThird x = twoAlike();
        due("all of the lesser", x.copy(0, 2, 1, 0, 3), 1);
        rowDue(x, 1, 1, 12, 13, 14);
        rowDue(x, 0, 1, 10, 11, 12, 13, 14);
        due("one, to the last", x.copy(0, 0, 1, 2, 1), 1);
        rowDue(x, 1, 1, 12, 13, 10);
        due("none, at the ends", x.copy(0, 5, 1, 3, 0), 1);
        due("none, at the beginnings", x.copy(0, 0, 1, 0, 0), 1);
        rowDue(x, 1, 1, 12, 13, 10);
        x.sheet(3, 1, 0);
        due("none of a row without items", x.copy(3, 0, 0, 5, 0), 1);
        due("none to a row without items", x.copy(0, 0, 3, 0, 0), 1);
        due("one of a row without items", x.copy(3, 0, 0, 0, 1), INDEX);
    }

    private static void copyWithinOne() {
        says("come to SHEET t (perhaps s, as they were)");
        for (int i = 0; i <= 5; i++) {
            for (int j = 0; j <= 5; j++) {
                for (int n = 0; n <= 6; n++) {
                    TurnThird x = twoAlike();
                    boolean is = i + n <= 5 && j + n <= 5;
                    due("copy(0, " + i + ", 0, " + j + ", " + n + ")", x.copy(0, i, 0, j, n), is ? 1 : INDEX);
                    for (int at = 0; at < 5; at++) {
                        boolean came = is && at >= j && at < j + n;
                        due("item " + at, x.get(0, 1, at), 10 + (came ? at - j + i : at));
                    }
                }
            }
        }
    }

    private static void copyRefused() {
        says("BAD: the SHEETS; NULL: s, t; STORE; INDEX: below 0, not so many.");
        int[] sheets = {LEAST, -1, 0, 1, 2, 3, 4, MOST};
        int[][] ranges = {{0, 0, 1}, {-1, 0, 1}, {0, -1, 1}, {0, 0, -1}, {LEAST, 0, 1}, {0, LEAST, 1}, {0, 0, LEAST},
            {5, 0, 1}, {0, 5, 1}, {0, 0, 6}, {5, 5, 0}, {6, 0, 0}, {0, 6, 0}, {MOST, 0, 1}, {0, MOST, 1},
            {0, 0, MOST}, {1, 1, MOST}, {MOST, MOST, MOST}, {MOST, 1, LEAST}, {LEAST, LEAST, LEAST}};
        int[] sizes = {5, 3, 5};
        for (int s : sheets) {
            for (int t : sheets) {
                for (int[] a : ranges) {
                    TurnThird x = twoAlike();
                    int want = 1;
                    if (s < 0 || s > 3 || t < 0 || t > 3) {
                        want = BAD;
                    } else if (s == 3 || t == 3) {
                        want = NULL;
                    } else if ((s == 2) != (t == 2)) {
                        want = STORE;
                    } else if (a[0] < 0 || a[1] < 0 || a[2] < 0 || (long) a[0] + a[2] > sizes[s]
                            || (long) a[1] + a[2] > sizes[t]) {
                        want = INDEX;
                    }
                    due("copy(" + s + ", " + a[0] + ", " + t + ", " + a[1] + ", " + a[2] + ")",
                            x.copy(s, a[0], t, a[1], a[2]), want);
                    due("count(8)", x.count(8), want <= NULL ? -10 - want : 0);
                    if (want != 1) {
                        rowDue(x, 0, 1, 10, 11, 12, 13, 14);
                        rowDue(x, 1, 1, 20, 21, 22);
                        rowDue(x, 2, 2, 30, 31, 32, 33, 34);
                    }
                }
            }
        }
    }

    private static void writing() {
        says("What lamps of GOERS 0 on have left at the end of THE PLAN comes to a SHEET from item 0 on, as many as "
                + "there are items and GOERS: how many.");
        for (int goers = 1; goers <= 4; goers++) {
            for (int n : new int[] {0, 1, 2, 3, 4, 5, 60}) {
                TurnThird x = Checks.inCave("511r", 999, 300, 4, 40);
                x.goers(goers);
                Checks.type(x, 1, "+");
                x.sheet(2, 1, n);
                for (int i = 0; i < n; i++) {
                    x.lay(2, 1, i, -9);
                }
                int want = Math.min(goers, n);
                due("write(2) of " + goers + " to " + n, x.write(2), want);
                int[] left = {994, 295, 0, 35};
                for (int i = 0; i < n; i++) {
                    due("item " + i, x.get(2, 1, i), i < want ? left[i] : -9);
                }
            }
        }
        TurnThird x = Checks.inCave("511r", 132, 133, 261, 999);
        Checks.type(x, 1, "+");
        x.sheet(0, 0, 4);
        due("to bytes", x.write(0), 4);
        rowDue(x, 0, 0, 127, -128, 0, (byte) 994);
        Checks.retype(x, 1, "++");
        due("a step that cannot be", x.write(0), 4);
        rowDue(x, 0, 0, 127, -128, 0, (byte) 994);
    }

    private static void writeRefused() {
        says("as many as there are items and GOERS: how many. BAD; NULL.");
        TurnThird x = new TurnThird();
        for (int s : new int[] {LEAST, -1, 4, MOST}) {
            due("write(" + s + ")", x.write(s), BAD);
        }
        due("BAD is no FINDING", x.count(8), 0);
        for (int s = 0; s <= 3; s++) {
            due("write of LOST", x.write(s), NULL);
            due("it stays LOST", x.lose(s), NULL);
        }
        due("count(8)", x.count(8), 1);
    }

    private static void latestFinding() {
        says("8 the number of the latest FINDING (0 before any). BAD.");
        TurnThird x = threeForms();
        due("before any", x.count(8), 0);
        x.sheet(3, 0, 61);
        x.type(0, 256);
        x.gone();
        x.undo(0);
        x.get(4, 0, 0);
        due("other refusals are none", x.count(8), 0);
        says("FINDINGS (answers -10 less the number; they change nothing but count() 8): 1 NULL: the SHEET is LOST; "
                + "2 INDEX: there is no such item; 3 CAST: it has another FORM; 4 STORE: unlike FORMS; 5 SIZE: below 0.");
        long[] answers = {x.lose(3), x.count(8), x.lay(0, 0, 5, 0), x.count(8), x.lay(0, 1, 0, 0), x.count(8),
            x.copy(0, 0, 1, 0, 1), x.count(8), x.sheet(0, 0, -1), x.count(8)};
        for (int number = 1; number <= 5; number++) {
            due("FINDING " + number, answers[2 * number - 2], -10 - number);
            due("count(8)", answers[2 * number - 1], number);
        }
        x.lay(0, 0, 0, 1);
        x.get(0, 0, 0);
        x.wipe(2);
        x.undo(1);
        x.sheet(0, 0, 1);
        x.digest();
        due("it stays till the next", x.count(8), 5);
        x.get(3, 0, 0);
        due("get tells of NULL", x.count(8), 1);
        x.get(0, 2, 0);
        due("get tells of CAST", x.count(8), 3);
        x.get(0, 0, 1);
        due("get tells of INDEX", x.count(8), 2);
        due("read tells of NULL", x.read(3), NULL);
        due("count(8)", x.count(8), 1);
        x.get(0, 0, 1);
        due("write tells of NULL", x.write(3), NULL);
        due("count(8)", x.count(8), 1);
        for (int what : new int[] {LEAST, -1, 9, MOST}) {
            due("count(" + what + ")", x.count(what), BAD);
        }
    }

    private static void orderOfRefusals() {
        says("Refusals, the first that fits, in the order told at each act: BAD -2 (a number not as told, no such thing), "
                + "NULL, NOT -3 (as told), FULL -4, other FINDINGS.");
        TurnThird x = threeForms();
        due("lay: BAD ahead of NULL", x.lay(3, 3, 0, 0), BAD);
        due("lay: NULL ahead of INDEX", x.lay(3, 0, -1, 0), NULL);
        due("lay: CAST ahead of INDEX", x.lay(0, 1, -1, 0), CAST);
        due("copy: BAD ahead of NULL", x.copy(3, -1, 4, -1, -1), BAD);
        due("copy: NULL ahead of STORE, INDEX", x.copy(0, -1, 3, -1, -1), NULL);
        due("copy: STORE ahead of INDEX", x.copy(0, -1, 1, -1, -1), STORE);
        due("sheet: BAD ahead of SIZE", x.sheet(0, 3, -1), BAD);
        due("sheet: BAD ahead of SIZE", x.sheet(4, 0, -1), BAD);
        due("count(8)", x.count(8), 4);
    }

    private static void digestWraps() {
        says("h is 17; h becomes 31 h and each of:");
        says("as longs that wrap.");
        TurnThird x = new TurnThird();
        // A new object has neither PARTS nor CANS; UNLIT of 3 PARTS is BAD, told four times.
        long[] told = {0, 0, 0, 0, 4, 0, 0, 0, -1, -1,
            0, 1, 60, -2, -2, 0, 1, 60, -2, -2, 0, 1, 60, -2, -2, 0, 1, 60, -2, -2,
            0, 1, 0, 1, 1, 0, 1, 0, 1, 1, 0, 1, 0, 1, 1, 0, 1, 0, 1, 1,
            0, 1, -1, 0, 0, 1, 48, 1, 5, -1, -1, 0, 1, 1};
        due("digest() of a new object", x.digest(), wrapped(told));
        x.get(0, 0, 0);
        due("FINDINGS do not count", x.digest(), wrapped(told));
        x.sheet(0, 0, 60);
        due("SHEETS do not count", x.digest(), wrapped(told));
    }

    private static void digestOfRefusals() {
        says("rule(3, f, 0 to 2) (as they are told);");
        long bad = Checks.BAD_LONG;
        TurnThird x = Checks.inCave("345r", 3);
        x.goers(1);
        Checks.type(x, 1, "+?");
        x.side(16, 7);
        x.can(1, 0, 0, 0);
        long[] told = {1, 0, 4, 2, 1, 3, 1, 1, -1, 1,
            3, 4, 5, 1,
            3, 7, 3, -2, -2,
            3, 7, 1, 3, 1, bad, bad, bad, bad, bad, bad, bad, bad, bad, bad, bad, bad, bad, bad, bad,
            3, 7, -1, 0, 0, 1, 48, 1, 5, 0, -1, 7, 1, 2};
        due("digest() with three f that are refused", x.digest(), wrapped(told));
    }

    private static long wrapped(long[] told) {
        BigInteger h = BigInteger.valueOf(17);
        for (long one : told) {
            h = h.multiply(BigInteger.valueOf(31)).add(BigInteger.valueOf(one));
        }
        return h.longValue();
    }

    private static void lastOfTheCalls() {
        says("An object is used for at most 512 calls after it has been made;");
        TurnThird x = new TurnThird();
        for (int i = 0; i < 255; i++) {
            x.type(i % 2, 255);
            x.undo(i % 2);
        }
        due("the 511th call", x.type(0, '7'), 1);
        TurnThird fresh = new TurnThird();
        fresh.type(0, '7');
        due("the 512th call", x.digest(), fresh.digest());
    }
}
