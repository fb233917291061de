/** Promises 1 to 9, and count() of what they change: a new object, texts, PARTS, GOERS, lamps. */
public final class CaveTest {
    private static final Checks CHECKS = new Checks();

    public static void main(String[] args) {
        newObject();
        typing();
        wiping();
        undoing();
        caveFaults();
        planFaults();
        parts();
        goersAndLamps();
        reading();
        CHECKS.end();
    }

    private static void due(String call, long got, long want) {
        CHECKS.due(call, got, want);
    }

    private static void newObject() {
        TurnThird x = new TurnThird();
        int[] counts = {0, 0, 0, 0, 4, 0, 0, 0, 0};
        for (int what = 0; what <= 8; what++) {
            due("new count(" + what + ")", x.count(what), counts[what]);
        }
        due("count(9)", x.count(9), TurnThird.BAD);
        due("count(-1)", x.count(-1), TurnThird.BAD);
        for (int goer = 0; goer < 4; goer++) {
            due("new left", x.left(0, goer), 60);
        }
        for (int s = 0; s < 4; s++) {
            due("new lose(" + s + ")", x.lose(s), -11);
        }
        due("new part(0, 0)", x.part(0, 0), TurnThird.BAD);
        due("new fault(0)", x.fault(0), TurnThird.NONE);
        due("new fault(1)", x.fault(1), TurnThird.NONE);
    }

    private static void typing() {
        TurnThird x = new TurnThird();
        int[] limits = {79, 40};
        for (int text = 0; text < 2; text++) {
            due("type b -1", x.type(text, -1), TurnThird.BAD);
            due("type b 256", x.type(text, 256), TurnThird.BAD);
            for (int i = 1; i <= limits[text]; i++) {
                due("type", x.type(text, i % 2 == 0 ? 0 : 255), i);
            }
            due("type beyond", x.type(text, '+'), TurnThird.FULL);
            due("type beyond, b 256", x.type(text, 256), TurnThird.BAD);
            due("count of bytes", x.count(2 + text), limits[text]);
        }
        due("type(2, 0)", x.type(2, 0), TurnThird.BAD);
        due("type(-1, 0)", x.type(-1, 0), TurnThird.BAD);
    }

    private static void wiping() {
        TurnThird x = Checks.inCave("111r;222.");
        Checks.type(x, 1, "+-");
        due("wipe(0)", x.wipe(0), 9);
        due("no PARTS", x.count(0), 0);
        due("THE PLAN stays", x.count(3), 2);
        due("wipe(0) again", x.wipe(0), 0);
        due("wipe(1)", x.wipe(1), 2);
        due("wipe(2)", x.wipe(2), TurnThird.BAD);
        due("wipe(-1)", x.wipe(-1), TurnThird.BAD);
    }

    private static void undoing() {
        TurnThird x = Checks.inCave("111r");
        due("undo(0)", x.undo(0), 3);
        due("not ended", x.fault(0), 3);
        due("no PART", x.count(0), 0);
        due("undo", x.undo(0), 2);
        due("undo", x.undo(0), 1);
        due("undo", x.undo(0), 0);
        due("well again", x.fault(0), TurnThird.NONE);
        due("undo of nothing", x.undo(0), TurnThird.NOT);
        due("undo(1)", x.undo(1), TurnThird.NOT);
        due("undo(2)", x.undo(2), TurnThird.BAD);
        due("undo(-1)", x.undo(-1), TurnThird.BAD);
    }

    private static void faultDue(int text, String bytes, int want) {
        TurnThird x = new TurnThird();
        Checks.type(x, text, bytes);
        due("fault of '" + bytes + "'", x.fault(text), want);
        due("count of '" + bytes + "'", x.count(text), want != TurnThird.NONE ? 0
                : text == 0 ? (bytes.length() + 1) / 5 : bytes.length());
    }

    private static void caveFaults() {
        faultDue(0, "", TurnThird.NONE);
        faultDue(0, "111r", TurnThird.NONE);
        faultDue(0, "999.", TurnThird.NONE);
        faultDue(0, "012r", 0);
        faultDue(0, "102r", 1);
        faultDue(0, "110r", 2);
        faultDue(0, ":11r", 0);
        faultDue(0, "132r", 2);
        faultDue(0, "133r", TurnThird.NONE);
        faultDue(0, "311r", TurnThird.NONE);
        faultDue(0, "111R", 3);
        faultDue(0, "111;", 3);
        faultDue(0, "1", 1);
        faultDue(0, "11", 2);
        faultDue(0, "111", 3);
        faultDue(0, "111r;", 5);
        faultDue(0, "111r.", 4);
        faultDue(0, "111r;;", 5);
        faultDue(0, ";", 0);
        faultDue(0, "111r;121.;111r", 7);
        faultDue(0, "111r;122.;198r", 12);
        faultDue(0, "111r;122.;189r", TurnThird.NONE);
        faultDue(0, "111r;".repeat(15) + "111r", TurnThird.NONE);
        faultDue(0, "111r;".repeat(15) + "121r", 77);
        TurnThird x = new TurnThird();
        due("fault(2)", x.fault(2), TurnThird.BAD);
        due("fault(-1)", x.fault(-1), TurnThird.BAD);
    }

    private static void planFaults() {
        faultDue(1, "", TurnThird.NONE);
        faultDue(1, "+-u", TurnThird.NONE);
        faultDue(1, "uu+x0x1x2x3-", TurnThird.NONE);
        faultDue(1, "x", 1);
        faultDue(1, "++x", 3);
        faultDue(1, "x4", 1);
        faultDue(1, "xx", 1);
        faultDue(1, "x0x", 3);
        faultDue(1, "x00", 2);
        faultDue(1, "0", 0);
        faultDue(1, "+X0", 1);
        faultDue(1, "+".repeat(39) + "x", 40);
    }

    private static void parts() {
        TurnThird x = Checks.inCave("123r;945.");
        int[][] want = {{1, 2, 3, 1}, {9, 4, 5, 0}};
        for (int i = 0; i < 2; i++) {
            for (int what = 0; what <= 3; what++) {
                due("part(" + i + ", " + what + ")", x.part(i, what), want[i][what]);
            }
        }
        due("all IN", x.count(5), 10);
        due("part(2, 0)", x.part(2, 0), TurnThird.BAD);
        due("part(-1, 0)", x.part(-1, 0), TurnThird.BAD);
        due("part(0, 4)", x.part(0, 4), TurnThird.BAD);
        due("part(0, -1)", x.part(0, -1), TurnThird.BAD);
        x.type(0, 'z');
        due("with a FAULT no PART", x.part(0, 0), TurnThird.BAD);
        due("with a FAULT no IN", x.count(5), 0);
        due("with a FAULT all bytes", x.count(2), 10);
        x.undo(0);
        due("PARTS are back", x.part(1, 0), 9);
    }

    private static void goersAndLamps() {
        TurnThird x = new TurnThird();
        due("goers(1)", x.goers(1), 4);
        due("goers(3)", x.goers(3), 1);
        due("goers(0)", x.goers(0), TurnThird.BAD);
        due("goers(5)", x.goers(5), TurnThird.BAD);
        due("goers(-1)", x.goers(-1), TurnThird.BAD);
        due("count(4)", x.count(4), 3);
        due("lamp(3, 0) of none", x.lamp(3, 0), 60);
        due("lamp(3, 999)", x.lamp(3, 999), 0);
        due("lamp(3, 1000)", x.lamp(3, 1000), TurnThird.BAD);
        due("lamp(3, -1)", x.lamp(3, -1), TurnThird.BAD);
        due("lamp(-1, 1)", x.lamp(-1, 1), TurnThird.BAD);
        due("lamp(4, 1)", x.lamp(4, 1), TurnThird.BAD);
        due("lamp(3, 60)", x.lamp(3, 60), 999);
    }

    private static void reading() {
        TurnThird x = new TurnThird();
        x.goers(1);
        due("read(-1)", x.read(-1), TurnThird.BAD);
        due("read(4)", x.read(4), TurnThird.BAD);
        due("read of LOST", x.read(2), -11);
        due("count(8)", x.count(8), 1);
        x.sheet(2, 2, 6);
        for (int i = 0; i < 6; i++) {
            x.lay(2, 2, i, 999 - i);
        }
        due("four at most, though one GOER", x.read(2), 4);
        for (int i = 0; i < 4; i++) {
            due("lamp read", x.lamp(i, 7), 999 - i);
        }
        x.lay(2, 2, 1, -1);
        due("till one that may not be", x.read(2), 1);
        due("lamp 0", x.lamp(0, 7), 999);
        due("lamp 1 stays", x.lamp(1, 7), 7);
        x.lay(2, 2, 0, 1000);
        due("none may be", x.read(2), 0);
        due("lamp 0 stays", x.lamp(0, 7), 7);
        x.sheet(2, 0, 2);
        x.lay(2, 0, 1, 200);
        due("bytes are signed", x.read(2), 1);
        x.sheet(2, 1, 0);
        due("no items", x.read(2), 0);
    }
}
