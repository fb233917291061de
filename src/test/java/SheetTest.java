/** Promises 28 to 34: SHEETS, FINDINGS, write, count() 8. */
public final class SheetTest {
    private static final Checks CHECKS = new Checks();
    private static final int LEAST = Integer.MIN_VALUE;
    private static final int NULL = -11, INDEX = -12, CAST = -13, STORE = -14, SIZE = -15;

    public static void main(String[] args) {
        making();
        losing();
        laying();
        getting();
        copying();
        writing();
        CHECKS.end();
    }

    private static void due(String call, long got, long want) {
        CHECKS.due(call, got, want);
    }

    private static void making() {
        TurnThird x = new TurnThird();
        due("sheet(0, 0, 0)", x.sheet(0, 0, 0), 0);
        due("sheet(3, 2, 60)", x.sheet(3, 2, 60), 60);
        due("sheet(3, 2, 61)", x.sheet(3, 2, 61), TurnThird.BAD);
        due("sheet(4, 0, 1)", x.sheet(4, 0, 1), TurnThird.BAD);
        due("sheet(-1, 0, 1)", x.sheet(-1, 0, 1), TurnThird.BAD);
        due("sheet(0, 3, 1)", x.sheet(0, 3, 1), TurnThird.BAD);
        due("sheet(0, -1, 1)", x.sheet(0, -1, 1), TurnThird.BAD);
        due("sheet(0, 3, -1)", x.sheet(0, 3, -1), TurnThird.BAD);
        due("count(8)", x.count(8), 0);
        due("sheet(3, 0, -1)", x.sheet(3, 0, -1), SIZE);
        due("count(8)", x.count(8), 5);
        x.lay(3, 2, 59, 77);
        due("the row stays", x.get(3, 2, 59), 77);
        x.sheet(3, 2, 60);
        due("a new row", x.get(3, 2, 59), 0);
        x.lay(3, 2, 5, 78);
        x.sheet(3, 2, 2);
        x.sheet(3, 2, 60);
        due("a new row behind a short one", x.get(3, 2, 5), 0);
    }

    private static void losing() {
        TurnThird x = new TurnThird();
        due("lose(-1)", x.lose(-1), TurnThird.BAD);
        due("lose(4)", x.lose(4), TurnThird.BAD);
        due("lose(0)", x.lose(0), NULL);
        x.sheet(0, 1, 7);
        due("lose(0)", x.lose(0), 7);
        due("lose(0) again", x.lose(0), NULL);
        x.sheet(0, 1, 0);
        due("lose(0) of no items", x.lose(0), 0);
    }

    private static void laying() {
        TurnThird x = new TurnThird();
        due("lay(4, ..)", x.lay(4, 0, 0, 0), TurnThird.BAD);
        due("lay(-1, ..)", x.lay(-1, 0, 0, 0), TurnThird.BAD);
        due("lay FORM 3", x.lay(0, 3, 0, 0), TurnThird.BAD);
        due("lay FORM -1", x.lay(0, -1, 0, 0), TurnThird.BAD);
        due("lay LOST", x.lay(0, 0, 0, 0), NULL);
        due("count(8)", x.count(8), 1);
        x.sheet(0, 0, 2);
        x.sheet(1, 1, 2);
        x.sheet(2, 2, 2);
        due("lay CAST ahead of INDEX", x.lay(0, 1, 2, 0), CAST);
        due("count(8)", x.count(8), 3);
        due("lay INDEX", x.lay(0, 0, 2, 0), INDEX);
        due("count(8)", x.count(8), 2);
        due("lay INDEX below 0", x.lay(0, 0, -1, 0), INDEX);
        due("lay INDEX far", x.lay(0, 0, Integer.MAX_VALUE, 0), INDEX);
        int[] values = {0, 1, -1, 127, 128, 255, 256, 32767, 32768, 65535, 65536, LEAST, Integer.MAX_VALUE};
        for (int v : values) {
            due("lay", x.lay(0, 0, 1, v), 1);
            due("byte " + v, x.get(0, 0, 1), (byte) v);
            due("lay", x.lay(1, 1, 1, v), 1);
            due("short " + v, x.get(1, 1, 1), (short) v);
            due("lay", x.lay(2, 2, 1, v), 1);
            due("int " + v, x.get(2, 2, 1), v);
            due("item 0 stays", x.get(2, 2, 0), 0);
        }
    }

    private static void getting() {
        TurnThird x = new TurnThird();
        due("get(4, ..)", x.get(4, 0, 0), LEAST);
        due("get FORM 3", x.get(0, 3, 0), LEAST);
        due("BAD is no FINDING", x.count(8), 0);
        due("get LOST", x.get(0, 0, 0), LEAST);
        due("count(8)", x.count(8), 1);
        x.sheet(0, 2, 1);
        due("get CAST", x.get(0, 1, 5), LEAST);
        due("count(8)", x.count(8), 3);
        due("get INDEX", x.get(0, 2, 1), LEAST);
        due("count(8)", x.count(8), 2);
        due("get INDEX below 0", x.get(0, 2, -1), LEAST);
        due("get", x.get(0, 2, 0), 0);
        due("count(8) stays", x.count(8), 2);
    }

    private static TurnThird rows() {
        TurnThird x = new TurnThird();
        x.sheet(0, 2, 5);
        x.sheet(1, 2, 3);
        x.sheet(2, 1, 5);
        for (int i = 0; i < 5; i++) {
            x.lay(0, 2, i, 10 + i);
        }
        return x;
    }

    private static void rowDue(TurnThird x, int s, int... want) {
        for (int i = 0; i < want.length; i++) {
            due("item " + i + " of " + s, x.get(s, 2, i), want[i]);
        }
    }

    private static void copying() {
        TurnThird x = rows();
        due("copy", x.copy(0, 1, 1, 0, 3), 1);
        rowDue(x, 1, 11, 12, 13);
        due("copy up in itself", x.copy(0, 0, 0, 1, 4), 1);
        rowDue(x, 0, 10, 10, 11, 12, 13);
        due("copy down in itself", x.copy(0, 2, 0, 0, 3), 1);
        rowDue(x, 0, 11, 12, 13, 12, 13);
        due("copy of nothing, at the ends", x.copy(0, 5, 1, 3, 0), 1);
        due("copy of nothing, beyond", x.copy(0, 6, 1, 3, 0), INDEX);
        due("copy of nothing, beyond", x.copy(0, 5, 1, 4, 0), INDEX);
        int[][] beyond = {{-1, 0, 1}, {0, -1, 1}, {0, 0, -1}, {3, 0, 3}, {0, 1, 3}, {1, 1, Integer.MAX_VALUE},
            {Integer.MAX_VALUE, 0, 1}, {0, Integer.MAX_VALUE, 1}, {LEAST, LEAST, LEAST}};
        for (int[] a : beyond) {
            due("copy INDEX", x.copy(0, a[0], 1, a[1], a[2]), INDEX);
        }
        due("count(8)", x.count(8), 2);
        rowDue(x, 0, 11, 12, 13, 12, 13);
        rowDue(x, 1, 11, 12, 13);
        due("copy STORE ahead of INDEX", x.copy(0, 9, 2, 0, 1), STORE);
        due("count(8)", x.count(8), 4);
        due("copy STORE of nothing", x.copy(0, 0, 2, 0, 0), STORE);
        due("copy NULL from", x.copy(3, 0, 0, 0, 1), NULL);
        due("copy NULL to", x.copy(0, -1, 3, 0, 1), NULL);
        due("count(8)", x.count(8), 1);
        due("copy BAD ahead of NULL", x.copy(3, 0, 4, 0, 1), TurnThird.BAD);
        due("copy BAD ahead of NULL", x.copy(-1, 0, 3, 0, 1), TurnThird.BAD);
    }

    private static void writing() {
        TurnThird x = Checks.inCave("123r", 999, 300, 2, 40);
        Checks.type(x, 1, "+-");
        due("write(-1)", x.write(-1), TurnThird.BAD);
        due("write(4)", x.write(4), TurnThird.BAD);
        due("write of LOST", x.write(0), NULL);
        due("count(8)", x.count(8), 1);
        x.sheet(0, 2, 6);
        x.lay(0, 2, 4, -7);
        due("write(0)", x.write(0), 4);
        // Lamp 2 is out ahead of the way out, which then takes 3.
        rowDue(x, 0, 995, 296, 0, 36, -7, 0);
        x.goers(2);
        x.sheet(0, 2, 6);
        due("as many as GOERS", x.write(0), 2);
        rowDue(x, 0, 996, 297, 0);
        x.sheet(1, 0, 1);
        due("as many as items", x.write(1), 1);
        due("the lowest bits", x.get(1, 0, 0), (byte) 996);
        x.sheet(1, 1, 0);
        due("no items", x.write(1), 0);
        x.type(1, '?');
        due("THE PLAN has a FAULT", x.write(0), 2);
        rowDue(x, 0, 999, 300);
    }
}
