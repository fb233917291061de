/** The boundary cases of texts, PARTS and their FAULTS, sentence by sentence: the document's Terms, promises 1 to 6. */
public final class TextBoundsTest {
    private static final Checks CHECKS = new Checks();
    private static final int NONE = TurnThird.NONE, BAD = TurnThird.BAD, NOT = TurnThird.NOT, FULL = TurnThird.FULL;
    private static final int LEAST = Integer.MIN_VALUE, MOST = Integer.MAX_VALUE;
    private static final String SIXTEEN = "111r;".repeat(15) + "111r";

    public static void main(String[] args) {
        aNewObject();
        lengthOfTheCave();
        lengthOfThePlan();
        sixteenParts();
        figuresOfAPart();
        sharedByOut();
        ropes();
        bytesOfThePlan();
        emptyAndNotEnded();
        caveWithAFault();
        planWithAFault();
        typing();
        wiping();
        undoing();
        faults();
        parts();
        counts();
        CHECKS.end();
    }

    private static void says(String sentence) {
        CHECKS.sentence(sentence);
    }

    private static void due(String call, long got, long want) {
        CHECKS.due(call, got, want);
    }

    private static TurnThird typed(int text, String bytes) {
        TurnThird x = new TurnThird();
        Checks.type(x, text, bytes);
        return x;
    }

    private static void faultDue(int text, String bytes, int want) {
        due("fault of '" + bytes + "'", typed(text, bytes).fault(text), want);
    }

    private static void aNewObject() {
        says("No CAVE; all SHEETS are LOST.");
        TurnThird x = new TurnThird();
        due("PARTS", x.count(0), 0);
        due("bytes of THE CAVE", x.count(2), 0);
        due("part(0, 0)", x.part(0, 0), BAD);
        for (int s = 0; s <= 3; s++) {
            for (int form = 0; form <= 2; form++) {
                due("lay", x.lay(s, form, 0, 1), -11);
            }
            due("write", x.write(s), -11);
            due("lose", x.lose(s), -11);
        }
    }

    private static void lengthOfTheCave() {
        says("THE CAVE (text 0) is up to 79 bytes:");
        TurnThird x = typed(0, SIXTEEN.substring(0, 78));
        due("the 79th byte", x.type(0, 'r'), 79);
        due("it is well", x.fault(0), NONE);
        due("the 80th byte", x.type(0, ';'), FULL);
        due("nothing came", x.count(2), 79);
        due("still well", x.fault(0), NONE);
        due("one undone", x.undo(0), 78);
        due("another 79th byte", x.type(0, '.'), 79);
        due("the rope is gone", x.part(15, 3), 0);
        due("the other text has room", x.type(1, '+'), 1);
    }

    private static void lengthOfThePlan() {
        says("THE PLAN (text 1) is up to 40 bytes:");
        TurnThird x = typed(1, "+".repeat(39));
        due("the 40th byte", x.type(1, '-'), 40);
        due("it is well", x.fault(1), NONE);
        due("the 41st byte", x.type(1, '-'), FULL);
        due("nothing came", x.count(3), 40);
        due("all are well", x.count(1), 40);
        due("one undone", x.undo(1), 39);
        due("an x as the 40th byte", x.type(1, 'x'), 40);
        due("it is not ended", x.fault(1), 40);
        due("its figure has no room", x.type(1, '0'), FULL);
        due("it is not ended", x.fault(1), 40);
        due("the other text has room", x.type(0, '1'), 1);
    }

    private static void sixteenParts() {
        says("PARTS, 16 at most (0 on, from outside), with ; between them:");
        for (int n = 1; n <= 16; n++) {
            StringBuilder text = new StringBuilder();
            for (int i = 0; i < n; i++) {
                text.append(i == 0 ? "" : ";").append(1 + i % 9).append(1 + i / 9).append("9r");
            }
            TurnThird x = typed(0, text.toString());
            due("PARTS of " + text, x.count(0), n);
            for (int i = 0; i < n; i++) {
                due("IN of PART " + i, x.part(i, 0), 1 + i % 9);
                due("OUT of PART " + i, x.part(i, 1), 1 + i / 9);
            }
            due("no PART " + n, x.part(n, 0), BAD);
        }
        TurnThird x = Checks.inCave("711r;311r");
        Checks.type(x, 1, "+");
        due("PART 0 is the one at the outside", x.state(1, 1), 7);
        faultDue(0, "111r111r", 4);
        faultDue(0, "111r,111r", 4);
        faultDue(0, "111r;;111r", 5);
        faultDue(0, ";111r", 0);
        faultDue(0, SIXTEEN, NONE);
        says("or of the first byte of a seventeenth PART.");
        // Sixteen PARTS and the ; between them are 79 bytes: a seventeenth has no room to begin.
        x = typed(0, SIXTEEN);
        due("the ; behind the sixteenth", x.type(0, ';'), FULL);
        due("the seventeenth's first byte", x.type(0, '1'), FULL);
        due("sixteen stay", x.count(0), 16);
        faultDue(0, SIXTEEN.substring(0, 75), 75);
        faultDue(0, SIXTEEN.substring(0, 78), 78);
        faultDue(0, SIXTEEN.substring(0, 78) + ";", 78);
    }

    private static void figuresOfAPart() {
        says("three figures (1 to 9 each): IN, OUT, SHARED (no less than OUT), the minutes that it takes,");
        String[] ahead = {"", "1", "11"};
        for (int slot = 0; slot < 3; slot++) {
            for (int b = 0; b <= 255; b++) {
                boolean isFigure = b >= '1' && b <= '9';
                faultDue(0, ahead[slot] + (char) b, isFigure ? slot + 1 : slot);
                faultDue(0, "999.;" + ahead[slot] + (char) b, isFigure ? slot + 6 : slot + 5);
            }
        }
        for (int figure = 1; figure <= 9; figure++) {
            due("IN " + figure, typed(0, figure + "11r").part(0, 0), figure);
            due("OUT " + figure, typed(0, "1" + figure + "9r").part(0, 1), figure);
            due("SHARED " + figure, typed(0, "11" + figure + "r").part(0, 2), figure);
        }
    }

    private static void sharedByOut() {
        says("here also of SHARED less than OUT,");
        for (int out = 1; out <= 9; out++) {
            for (int shared = 1; shared <= 9; shared++) {
                boolean well = shared >= out;
                String part = "9" + out + shared + ".";
                faultDue(0, part, well ? NONE : 2);
                faultDue(0, part.substring(0, 3), well ? 3 : 2);
                faultDue(0, "111r;" + part, well ? NONE : 7);
                faultDue(0, SIXTEEN.substring(0, 75) + part, well ? NONE : 77);
            }
        }
        faultDue(0, "121r;0", 2);
    }

    private static void ropes() {
        says("and r (there is a rope) or . (none).");
        for (int b = 0; b <= 255; b++) {
            boolean known = b == 'r' || b == '.';
            faultDue(0, "111" + (char) b, known ? NONE : 3);
            faultDue(0, "111r" + (char) b, b == ';' ? 5 : 4);
        }
        due("r", typed(0, "111r").part(0, 3), 1);
        due(".", typed(0, "111.").part(0, 3), 0);
    }

    private static void bytesOfThePlan() {
        says("+ (one PART in), - (one out), u (once more the next PART is gone unlit), x and a figure, 0 to 3");
        for (int b = 0; b <= 255; b++) {
            int act = b == '+' || b == '-' || b == 'u' ? NONE : b == 'x' ? 1 : 0;
            faultDue(1, "" + (char) b, act);
            faultDue(1, "+" + (char) b, act == NONE ? NONE : act + 1);
            faultDue(1, "u" + (char) b, act == NONE ? NONE : act + 1);
            faultDue(1, "x0" + (char) b, act == NONE ? NONE : act + 2);
            faultDue(1, "x" + (char) b, b >= '0' && b <= '3' ? NONE : 1);
        }
    }

    private static void emptyAndNotEnded() {
        says("The FAULT of a text is the place of the first byte with which it cannot go on (an empty one is well; "
                + "of one that is not ended, its end),");
        faultDue(0, "", NONE);
        faultDue(1, "", NONE);
        for (int n = 1; n <= 79; n++) {
            faultDue(0, SIXTEEN.substring(0, n), n % 5 == 4 ? NONE : n);
        }
        for (int n = 1; n <= 40; n++) {
            faultDue(1, "x3".repeat(20).substring(0, n), n % 2 == 0 ? NONE : n);
        }
        // Of two places at which it cannot go on, the first.
        faultDue(0, "1a1b", 1);
        faultDue(0, "0", 0);
        faultDue(1, "+a+b", 1);
        faultDue(1, "x9", 1);
        TurnThird x = typed(0, "111r");
        x.undo(0);
        due("not ended any more", x.fault(0), 3);
        x.wipe(0);
        due("wiped, so empty", x.fault(0), NONE);
    }

    private static void caveWithAFault() {
        says("With a FAULT a text is as if it was empty.");
        TurnThird x = Checks.inCave("334r;245.");
        Checks.type(x, 1, "x0+-");
        x.can(0, 0, 60, 0);
        due("with PARTS", x.turned(), 7);
        x.type(0, 'z');
        due("PARTS", x.count(0), 0);
        due("IN of all", x.count(5), 0);
        due("part(0, 0)", x.part(0, 0), BAD);
        for (int what = 0; what <= 1; what++) {
            due("far", x.far(0, what), what);
            due("safe", x.safe(3, what), what);
            due("rule", x.rule(9, 3, what), what);
            due("point", x.point(what), what);
            due("unlit(0, ..)", x.unlit(0, 0, what), 0);
            due("unlit(1, ..)", x.unlit(1, 0, what), BAD);
        }
        due("rule, out", x.rule(2, 3, 2), 1);
        due("the first step cannot be", x.judged(), 2);
        due("home()", x.home(), 0);
        due("they may have turned outside alone", x.turned(), 1);
        due("its bytes are there", x.count(2), 10);
        x.undo(0);
        due("all is back", x.turned(), 7);
        due("all is back", x.judged(), NONE);
        due("all is back", x.part(1, 2), 5);
    }

    private static void planWithAFault() {
        says("With a FAULT a text is as if it was empty.");
        TurnThird x = Checks.inCave("334r;245.", 30, 31, 32, 33);
        Checks.type(x, 1, "++x0");
        x.sheet(0, 2, 4);
        due("the well one", x.judged(), NONE);
        due("the well one", x.home(), 0);
        due("the well one", x.state(4, 0), 2);
        x.type(1, 'x');
        due("bytes that are well", x.count(1), 0);
        due("bytes", x.count(3), 5);
        due("judged()", x.judged(), NONE);
        due("home()", x.home(), 1);
        due("state(0, 0)", x.state(0, 0), 0);
        due("state(0, 1)", x.state(0, 1), 0);
        due("state(1, 0)", x.state(1, 0), BAD);
        due("left(1, 0)", x.left(1, 0), BAD);
        due("write(0)", x.write(0), 4);
        for (int goer = 0; goer < 4; goer++) {
            due("left(0, " + goer + ")", x.left(0, goer), 30 + goer);
            due("written", x.get(0, 2, goer), 30 + goer);
        }
        x.type(1, '1');
        due("ended, so well again", x.state(6, 0), 2);
        due("ended, so well again", x.left(6, 1), 0);
        due("ended, so well again", x.count(1), 6);
    }

    private static void typing() {
        says("A byte (0 to 255) comes behind a text: how many. BAD; FULL.");
        int[] wrongBytes = {LEAST, -256, -1, 256, 256 + '1', MOST};
        int[] wrongTexts = {LEAST, -1, 2, 3, MOST};
        TurnThird x = new TurnThird();
        for (int text = 0; text <= 1; text++) {
            int limit = text == 0 ? 79 : 40;
            for (int b : wrongBytes) {
                due("type(" + text + ", " + b + ") of an empty text", x.type(text, b), BAD);
            }
            due("byte 0", x.type(text, 0), 1);
            due("byte 255", x.type(text, 255), 2);
            for (int i = 3; i <= limit; i++) {
                due("byte " + i, x.type(text, '1'), i);
            }
            due("a byte too many", x.type(text, 0), FULL);
            due("a byte too many", x.type(text, 255), FULL);
            for (int b : wrongBytes) {
                due("BAD ahead of FULL", x.type(text, b), BAD);
            }
            due("bytes", x.count(2 + text), limit);
        }
        for (int text : wrongTexts) {
            due("type(" + text + ", 49)", x.type(text, '1'), BAD);
        }
    }

    private static void wiping() {
        says("A text is empty: how many bytes it had. BAD.");
        for (int text = 0; text <= 1; text++) {
            int limit = text == 0 ? 79 : 40;
            for (int n : new int[] {0, 1, limit}) {
                TurnThird x = typed(text, "1".repeat(n));
                x.type(1 - text, '+');
                due("wipe of " + n, x.wipe(text), n);
                due("no bytes", x.count(2 + text), 0);
                due("well", x.fault(text), NONE);
                due("the other text stays", x.count(3 - text), 1);
                due("wipe again", x.wipe(text), 0);
                due("the first byte again", x.type(text, '1'), 1);
            }
        }
        TurnThird x = typed(0, "111r");
        for (int text : new int[] {LEAST, -1, 2, MOST}) {
            due("wipe(" + text + ")", x.wipe(text), BAD);
        }
        due("bytes stay", x.count(2), 4);
    }

    private static void undoing() {
        says("The last byte of a text is undone: how many are left. BAD; NOT: it is empty.");
        for (int text = 0; text <= 1; text++) {
            TurnThird x = new TurnThird();
            due("undo of an empty text", x.undo(text), NOT);
            x.type(text, text == 0 ? '1' : '+');
            due("undo of one byte", x.undo(text), 0);
            due("undo of none again", x.undo(text), NOT);
            due("well", x.fault(text), NONE);
            int limit = text == 0 ? 79 : 40;
            Checks.type(x, text, "1".repeat(limit));
            due("undo of a full one", x.undo(text), limit - 1);
            due("room for one", x.type(text, '1'), limit);
            due("for no more", x.type(text, '1'), FULL);
            x.wipe(text);
            due("undo behind wipe", x.undo(text), NOT);
        }
        TurnThird x = typed(0, "111r");
        for (int text : new int[] {LEAST, -1, 2, MOST}) {
            due("undo(" + text + ")", x.undo(text), BAD);
        }
        due("bytes stay", x.count(2), 4);
        due("the last byte is undone, not the first", x.undo(0), 3);
        x.type(0, '.');
        due("the first three stayed", x.fault(0), NONE);
        due("the last one is new", x.part(0, 3), 0);
    }

    private static void faults() {
        says("The FAULT of a text; NONE. BAD.");
        TurnThird x = new TurnThird();
        x.type(0, '?');
        due("fault(0)", x.fault(0), 0);
        due("fault(1)", x.fault(1), NONE);
        for (int text : new int[] {LEAST, -1, 2, MOST}) {
            due("fault(" + text + ")", x.fault(text), BAD);
        }
    }

    private static void parts() {
        says("IN (what = 0), OUT (1), SHARED (2), whether there is a rope (3) of a PART. BAD.");
        TurnThird x = typed(0, "123r;945.");
        int[][] want = {{1, 2, 3, 1}, {9, 4, 5, 0}};
        for (int part : new int[] {LEAST, -1, 0, 1, 2, 15, 16, MOST}) {
            for (int what : new int[] {LEAST, -1, 0, 1, 2, 3, 4, MOST}) {
                boolean known = part >= 0 && part <= 1 && what >= 0 && what <= 3;
                due("part(" + part + ", " + what + ")", x.part(part, what), known ? want[part][what] : BAD);
            }
        }
    }

    private static void counts() {
        says("0 PARTS, 1 bytes of THE PLAN that are well, 2, 3 bytes of texts, 4 GOERS, 5 IN of all PARTS together,");
        TurnThird x = typed(0, ("999.;".repeat(16)).substring(0, 79));
        due("the most IN", x.count(5), 144);
        due("PARTS", x.count(0), 16);
        due("bytes", x.count(2), 79);
        x.undo(0);
        due("with a FAULT", x.count(5), 0);
        due("with a FAULT", x.count(0), 0);
        due("with a FAULT", x.count(2), 78);
        x = typed(0, "199.");
        due("the least IN; OUT is not counted", x.count(5), 1);
        for (int what : new int[] {LEAST, -1, 9, MOST}) {
            due("count(" + what + ")", x.count(what), BAD);
        }
    }
}
