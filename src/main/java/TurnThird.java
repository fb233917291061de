/** Into a cave with lamps, and out again by them: see the document's numbered promises. */
public final class TurnThird {
    public static final int NONE = -1, BAD = -2, NOT = -3, FULL = -4;

    private static final int MOST_PARTS = 16, MOST_GOERS = 4, MOST_BURN = 999;
    private static final int CAVE_BYTES = 79, PLAN_BYTES = 40;
    private static final int MOST_UNLIT = 10, MOST_HELPERS = 6, MOST_MINUTES = 999;
    private static final int LAKE = 16;
    private static final int NULL = 1, INDEX = 2, CAST = 3, STORE = 4, SIZE = 5;
    private static final int LEAST_INT = 1 << 31;
    private static final long LEAST_LONG = 1L << 63;

    private final Text caveText = new Text(CAVE_BYTES);
    private final Text planText = new Text(PLAN_BYTES);
    private final Cave cave = new Cave();
    private final Plan plan = new Plan();
    private final Lamps lamps = new Lamps();
    private final Walk walk = new Walk();
    private final Unlit dark = new Unlit();
    private final SideWays ways = new SideWays();
    private final Cans cans = new Cans();
    private final Sheets sheets = new Sheets();
    private final Fraction told = new Fraction();

    public TurnThird() {
    }

    // ---- cave, lamps

    public int type(int text, int b) {
        Text chosen = textOf(text);
        if (chosen == null || !within(b, 0, 255)) {
            return BAD;
        }
        if (!chosen.push(b)) {
            return FULL;
        }
        parseAgain(text);
        return chosen.length();
    }

    public int wipe(int text) {
        Text chosen = textOf(text);
        if (chosen == null) {
            return BAD;
        }
        int had = chosen.length();
        chosen.clear();
        parseAgain(text);
        return had;
    }

    public int undo(int text) {
        Text chosen = textOf(text);
        if (chosen == null) {
            return BAD;
        }
        if (!chosen.pop()) {
            return NOT;
        }
        parseAgain(text);
        return chosen.length();
    }

    public int fault(int text) {
        if (!within(text, 0, 1)) {
            return BAD;
        }
        return text == 0 ? cave.faultPlace() : plan.faultPlace();
    }

    public int part(int part, int what) {
        if (!within(part, 0, cave.size() - 1) || !within(what, 0, 3)) {
            return BAD;
        }
        return cave.figure(part, what);
    }

    public int goers(int n) {
        if (!within(n, 1, MOST_GOERS)) {
            return BAD;
        }
        int was = lamps.party();
        lamps.setParty(n);
        return was;
    }

    public int lamp(int goer, int minutes) {
        if (!within(goer, 0, MOST_GOERS - 1) || !within(minutes, 0, MOST_BURN)) {
            return BAD;
        }
        int was = lamps.burns(goer);
        lamps.setBurns(goer, minutes);
        return was;
    }

    public int read(int s) {
        if (!Sheets.exists(s)) {
            return BAD;
        }
        if (sheets.isLost(s)) {
            return sheets.found(NULL);
        }
        int most = Math.min(MOST_GOERS, sheets.size(s));
        int done = 0;
        while (done < most && within(sheets.item(s, done), 0, MOST_BURN)) {
            lamps.setBurns(done, sheets.item(s, done));
            done++;
        }
        return done;
    }

    // ---- how far

    public long far(int goer, int what) {
        if (!isGoer(goer) || !within(what, 0, 1)) {
            return refusal(BAD);
        }
        cave.reach(told, lamps.burns(goer), 1, 1);
        return told.term(what);
    }

    public long safe(int f, int what) {
        if (!isGoer(f) || !within(what, 0, 1)) {
            return refusal(BAD);
        }
        cave.reach(told, lamps.leastBurn(), 1, lamps.toALight(lamps.party() - f));
        return told.term(what);
    }

    public long rule(int r, int f, int what) {
        if (!within(r, 2, 9) || !isGoer(f) || !within(what, 0, 2)) {
            return refusal(BAD);
        }
        int burn = lamps.leastBurn();
        cave.reach(told, burn, r, Cave.ONE_WAY);
        if (what == 2) {
            return cave.isOutWithin(told, burn, lamps.toALight(lamps.party() - f)) ? 1 : 0;
        }
        return told.term(what);
    }

    public long point(int what) {
        if (!within(what, 0, 1)) {
            return refusal(BAD);
        }
        // As long on by IN as back by OUT: IN and OUT so far together are IN of all.
        cave.reach(told, cave.allIn(), 1, 1);
        return told.term(what);
    }

    // ---- plans

    public int judged() {
        walk.run(planText, plan.size(), cave, lamps);
        return walk.stuckAt();
    }

    public int state(int k, int what) {
        if (!within(k, 0, plan.size()) || !within(what, 0, 1)) {
            return BAD;
        }
        walk.run(planText, k, cave, lamps);
        return what == 0 ? walk.depth() : walk.spent();
    }

    public int left(int k, int goer) {
        if (!within(k, 0, plan.size()) || !isGoer(goer)) {
            return BAD;
        }
        walk.run(planText, k, cave, lamps);
        return walk.remains(goer);
    }

    public int home() {
        walk.run(planText, plan.size(), cave, lamps);
        return walk.stuckAt() == NONE && walk.depth() == 0 ? 1 : 0;
    }

    public int unlit(int k, int goer, int what) {
        boolean known = within(k, 0, MOST_UNLIT) && k <= cave.size();
        if (!known || !isGoer(goer) || !within(what, 0, 1)) {
            return BAD;
        }
        dark.search(cave, k, lamps.burns(goer));
        return what == 0 ? dark.minutes() : dark.bits();
    }

    // ---- helpers, side ways

    public long help(int n, int c, int what) {
        if (!within(n, 1, MOST_HELPERS) || !within(c, 1, MOST_MINUTES) || !within(what, 0, 1)) {
            return refusal(BAD);
        }
        helped(n, c);
        return told.term(what);
    }

    public int least(int far, int c) {
        if (!within(far, 1, MOST_MINUTES) || !within(c, 1, MOST_MINUTES)) {
            return BAD;
        }
        for (int n = 1; n <= MOST_HELPERS; n++) {
            helped(n, c);
            if (told.term(0) >= far * told.term(1)) {
                return n;
            }
        }
        return NONE;
    }

    public int side(int sixteenths, int minutes) {
        if (!within(sixteenths, 0, LAKE) || !within(minutes, 1, 99)) {
            return BAD;
        }
        return ways.add(sixteenths, minutes) ? ways.size() : FULL;
    }

    public int gone() {
        return ways.dropLast() ? ways.size() : NOT;
    }

    public int first(int i) {
        if (!within(i, 0, SideWays.MOST - 1)) {
            return BAD;
        }
        return ways.tried(i);
    }

    public long mean(int what) {
        if (!within(what, 0, 1)) {
            return refusal(BAD);
        }
        told.set(ways.meanSixteenths(), LAKE);
        return told.term(what);
    }

    // ---- cans

    public int can(int place, int goer, int left, int way) {
        boolean known = within(place, 0, MOST_PARTS) && within(goer, 0, MOST_GOERS - 1)
                && within(left, 0, MOST_BURN) && within(way, 0, 1);
        if (!known) {
            return BAD;
        }
        return cans.add(place, goer, left, way) ? cans.size() : FULL;
    }

    public int forget() {
        int had = cans.size();
        cans.clear();
        return had;
    }

    public int turned() {
        int bits = 0;
        for (int turn = 0; turn <= cave.size(); turn++) {
            if (cans.allow(turn, cave, lamps)) {
                bits |= 1 << turn;
            }
        }
        return bits;
    }

    // ---- sheets

    public int sheet(int s, int form, int n) {
        if (!Sheets.exists(s) || !Sheets.isForm(form) || n > Sheets.MOST_ITEMS) {
            return BAD;
        }
        if (n < 0) {
            return sheets.found(SIZE);
        }
        sheets.make(s, form, n);
        return n;
    }

    public int lose(int s) {
        if (!Sheets.exists(s)) {
            return BAD;
        }
        if (sheets.isLost(s)) {
            return sheets.found(NULL);
        }
        int had = sheets.size(s);
        sheets.drop(s);
        return had;
    }

    public int lay(int s, int form, int i, int v) {
        int refused = sheets.look(s, form, i);
        if (refused != 0) {
            return refused;
        }
        sheets.put(s, i, v);
        return 1;
    }

    public int get(int s, int form, int i) {
        // Any int may stand in an item, so all refusals share the least one.
        return sheets.look(s, form, i) != 0 ? LEAST_INT : sheets.item(s, i);
    }

    public int copy(int s, int i, int t, int j, int n) {
        if (!Sheets.exists(s) || !Sheets.exists(t)) {
            return BAD;
        }
        if (sheets.isLost(s) || sheets.isLost(t)) {
            return sheets.found(NULL);
        }
        if (!sheets.alike(s, t)) {
            return sheets.found(STORE);
        }
        if (!sheets.holds(s, i, n) || !sheets.holds(t, j, n)) {
            return sheets.found(INDEX);
        }
        sheets.move(s, i, t, j, n);
        return 1;
    }

    public int write(int s) {
        if (!Sheets.exists(s)) {
            return BAD;
        }
        if (sheets.isLost(s)) {
            return sheets.found(NULL);
        }
        walk.run(planText, plan.size(), cave, lamps);
        int n = Math.min(sheets.size(s), lamps.party());
        for (int i = 0; i < n; i++) {
            sheets.put(s, i, walk.remains(i));
        }
        return n;
    }

    public int count(int what) {
        switch (what) {
            case 0:
                return cave.size();
            case 1:
                return plan.size();
            case 2:
                return caveText.length();
            case 3:
                return planText.length();
            case 4:
                return lamps.party();
            case 5:
                return cave.allIn();
            case 6:
                return ways.size();
            case 7:
                return cans.size();
            case 8:
                return sheets.latestFinding();
            default:
                return BAD;
        }
    }

    public long digest() {
        long h = 17;
        for (int what = 0; what <= 7; what++) {
            h = mix(h, count(what));
        }
        h = mix(mix(h, fault(0)), fault(1));
        for (int i = 0; i < cave.size(); i++) {
            for (int what = 0; what <= 3; what++) {
                h = mix(h, part(i, what));
            }
        }
        h = mixGoers(h);
        h = mixFailures(h);
        h = mix(mix(h, point(0)), point(1));
        h = mix(h, judged());
        h = mix(mix(h, state(plan.size(), 0)), state(plan.size(), 1));
        h = mix(h, home());
        h = mix(mix(h, help(4, 60, 0)), help(4, 60, 1));
        h = mix(h, least(50, 60));
        h = mix(mix(h, first(0)), first(1));
        h = mix(mix(h, mean(0)), mean(1));
        return mix(h, turned());
    }

    private long mixGoers(long start) {
        long h = start;
        walk.run(planText, plan.size(), cave, lamps);
        for (int goer = 0; goer < lamps.party(); goer++) {
            h = mix(mix(h, far(goer, 0)), far(goer, 1));
            h = mix(h, walk.remains(goer));
            h = mix(mix(h, unlit(3, goer, 0)), unlit(3, goer, 1));
        }
        return h;
    }

    private long mixFailures(long start) {
        long h = start;
        for (int f = 0; f <= 3; f++) {
            h = mix(mix(h, safe(f, 0)), safe(f, 1));
            for (int what = 0; what <= 2; what++) {
                h = mix(h, rule(3, f, what));
            }
        }
        return h;
    }

    private static long mix(long h, long value) {
        return 31 * h + value;
    }

    private static boolean within(int v, int least, int most) {
        return v >= least && v <= most;
    }

    private static long refusal(int code) {
        return LEAST_LONG - code;
    }

    private boolean isGoer(int goer) {
        return within(goer, 0, lamps.party() - 1);
    }

    private Text textOf(int text) {
        if (text == 0) {
            return caveText;
        }
        return text == 1 ? planText : null;
    }

    private void parseAgain(int text) {
        if (text == 0) {
            cave.parse(caveText);
        } else {
            plan.parse(planText);
        }
    }

    /**
     * With k left at a depth D, one turns behind x more, where C - x is what it fills, (k - 1) x,
     * and what takes it out, D + x: so C - D shrinks to k by (k + 1) of it, from n down to 2 to
     * 2 by (n + 1) of C; the last comes to (C + D) by 2, which is C n by (n + 1).
     */
    private void helped(int n, int c) {
        told.set((long) c * n, n + 1);
    }

    /** A number above and one below, in lowest terms. */
    private static final class Fraction {
        private long above = 0;
        private long below = 1;

        void set(long newAbove, long newBelow) {
            long divisor = commonDivisor(newAbove, newBelow);
            if (divisor <= 0) {
                above = 0;
                below = 1;
                return;
            }
            above = newAbove / divisor;
            below = newBelow / divisor;
        }

        long term(int what) {
            return what == 0 ? above : below;
        }

        /** Of numbers that are not below 0; Euclid needs less than a hundred rounds for any longs. */
        private static long commonDivisor(long a, long b) {
            long x = a;
            long y = b;
            for (int round = 0; round < 100 && y != 0; round++) {
                long rest = x % y;
                x = y;
                y = rest;
            }
            return x;
        }
    }

    /** Bytes that are typed one by one, up to a limit. */
    private static final class Text {
        private final int[] bytes;
        private int length = 0;

        Text(int limit) {
            bytes = new int[Math.max(0, limit)];
        }

        int length() {
            return length;
        }

        int at(int i) {
            return i >= 0 && i < length ? bytes[i] : NONE;
        }

        boolean push(int b) {
            if (length >= bytes.length) {
                return false;
            }
            bytes[length] = b;
            length++;
            return true;
        }

        boolean pop() {
            if (length == 0) {
                return false;
            }
            length--;
            return true;
        }

        void clear() {
            length = 0;
        }
    }

    /** The PARTS that a text tells, and how far minutes bring one in them. */
    private static final class Cave {
        static final int IN = 0, OUT = 1, SHARED = 2, ROPE = 3;
        /** In place of how many go by a light, where no way out is asked for. */
        static final int ONE_WAY = 0;
        /** A PART with the ; behind it. */
        private static final int PART_BYTES = 5;

        private final int[][] parts = new int[MOST_PARTS][4];
        private int size = 0;
        private int fault = NONE;

        int size() {
            return size;
        }

        int faultPlace() {
            return fault;
        }

        int figure(int part, int what) {
            if (part < 0 || part >= size || what < IN || what > ROPE) {
                return 0;
            }
            return parts[part][what];
        }

        void parse(Text text) {
            int n = text.length();
            size = 0;
            fault = NONE;
            for (int i = 0; i < n; i++) {
                if (!accept(i / PART_BYTES, i % PART_BYTES, text.at(i))) {
                    fault = i;
                    return;
                }
            }
            if (n > 0 && n % PART_BYTES != ROPE + 1) {
                fault = n;
                return;
            }
            size = (n + 1) / PART_BYTES;
        }

        private boolean accept(int part, int slot, int b) {
            if (part < 0 || part >= MOST_PARTS) {
                return false;
            }
            if (slot > ROPE) {
                return b == ';';
            }
            if (slot == ROPE) {
                parts[part][ROPE] = b == 'r' ? 1 : 0;
                return b == 'r' || b == '.';
            }
            if (b < '1' || b > '9') {
                return false;
            }
            parts[part][slot] = b - '0';
            return slot != SHARED || parts[part][SHARED] >= parts[part][OUT];
        }

        int allIn() {
            return sum(IN, size);
        }

        /** Of the first n PARTS. */
        int sum(int what, int n) {
            int sum = 0;
            for (int i = 0; i < n && i < size; i++) {
                sum += figure(i, what);
            }
            return sum;
        }

        int inMinutes(int part) {
            return figure(part, IN);
        }

        /** By so many to a light. */
        int outMinutes(int part, int toALight) {
            return toALight <= 1 ? figure(part, OUT) : (toALight - 1) * figure(part, SHARED);
        }

        private int thereAndBack(int part, int toALight) {
            int back = toALight == ONE_WAY ? 0 : outMinutes(part, toALight);
            return inMinutes(part) + back;
        }

        /** The farthest PLACE for an r-th of minutes. */
        void reach(Fraction place, int minutes, int r, int toALight) {
            long rest = minutes;
            for (int i = 0; i < size; i++) {
                long cost = (long) r * thereAndBack(i, toALight);
                if (cost > rest) {
                    place.set(i * cost + rest, cost);
                    return;
                }
                rest -= cost;
            }
            place.set(size, 1);
        }

        /** Whether in to a PLACE and out again, by so many to a light, takes no more than minutes. */
        boolean isOutWithin(Fraction place, int minutes, int toALight) {
            long below = place.term(1);
            if (below <= 0) {
                return false;
            }
            int whole = (int) (place.term(0) / below);
            long needed = place.term(0) % below * thereAndBack(whole, toALight);
            for (int i = 0; i < whole && i < size; i++) {
                needed += below * thereAndBack(i, toALight);
            }
            return needed <= below * minutes;
        }
    }

    /** Whether the text of THE PLAN is well; Walk goes by it. */
    private static final class Plan {
        private int size = 0;
        private int fault = NONE;

        /** As many bytes as are well: a text with a FAULT is as if it was empty. */
        int size() {
            return size;
        }

        int faultPlace() {
            return fault;
        }

        void parse(Text text) {
            int n = text.length();
            boolean figureIsDue = false;
            size = 0;
            fault = NONE;
            for (int i = 0; i < n; i++) {
                int b = text.at(i);
                if (figureIsDue ? !isGoerFigure(b) : !isAct(b)) {
                    fault = i;
                    return;
                }
                figureIsDue = !figureIsDue && b == 'x';
            }
            if (figureIsDue) {
                fault = n;
                return;
            }
            size = n;
        }

        private static boolean isGoerFigure(int b) {
            return b >= '0' && b <= '3';
        }

        private static boolean isAct(int b) {
            return b == '+' || b == '-' || b == 'u' || b == 'x';
        }
    }

    /** GOERS, and what their lamps BURN. */
    private static final class Lamps {
        private final int[] burns = {60, 60, 60, 60};
        private int party = MOST_GOERS;

        int party() {
            return party;
        }

        void setParty(int n) {
            party = n;
        }

        int burns(int goer) {
            return goer >= 0 && goer < burns.length ? burns[goer] : 0;
        }

        void setBurns(int goer, int minutes) {
            if (goer >= 0 && goer < burns.length) {
                burns[goer] = minutes;
            }
        }

        int leastBurn() {
            int least = burns(0);
            for (int i = 1; i < party; i++) {
                least = Math.min(least, burns(i));
            }
            return least;
        }

        /** How many go by one light, where so many lamps go. */
        int toALight(int going) {
            return going <= 0 ? party : (party + going - 1) / going;
        }
    }

    /** THE PLAN gone byte by byte. */
    private static final class Walk {
        private final int[] left = new int[MOST_GOERS];
        private final boolean[] goes = new boolean[MOST_GOERS];
        private int depth = 0;
        private int spent = 0;
        private int stuckAt = NONE;
        private boolean nextIsUnlit = false;
        private boolean figureIsDue = false;

        int depth() {
            return depth;
        }

        int spent() {
            return spent;
        }

        int stuckAt() {
            return stuckAt;
        }

        int remains(int goer) {
            return goer >= 0 && goer < MOST_GOERS ? left[goer] : 0;
        }

        /** From the start, through the first k bytes. */
        void run(Text text, int k, Cave cave, Lamps lamps) {
            begin(lamps);
            for (int i = 0; i < k && stuckAt == NONE; i++) {
                int b = text.at(i);
                if (figureIsDue) {
                    figureIsDue = false;
                    putOut(b - '0');
                } else if (b == 'x') {
                    figureIsDue = true;
                } else if (b == 'u') {
                    nextIsUnlit = true;
                } else if (!step(b == '+', cave, lamps)) {
                    stuckAt = i;
                }
            }
        }

        private void begin(Lamps lamps) {
            for (int i = 0; i < MOST_GOERS; i++) {
                left[i] = lamps.burns(i);
                goes[i] = i < lamps.party();
            }
            depth = 0;
            spent = 0;
            stuckAt = NONE;
            nextIsUnlit = false;
            figureIsDue = false;
        }

        private void putOut(int goer) {
            if (goer >= 0 && goer < MOST_GOERS) {
                goes[goer] = false;
                left[goer] = 0;
            }
        }

        /** Whether it can be. */
        private boolean step(boolean in, Cave cave, Lamps lamps) {
            int part = in ? depth : depth - 1;
            boolean isUnlit = nextIsUnlit;
            nextIsUnlit = false;
            if (part < 0 || part >= cave.size()) {
                return false;
            }
            int minutes = isUnlit ? unlitMinutes(part, in, cave) : litMinutes(part, in, cave, lamps);
            if (minutes == NONE) {
                return false;
            }
            if (!isUnlit) {
                burn(minutes);
            }
            spent += minutes;
            depth += in ? 1 : -1;
            return true;
        }

        private static int unlitMinutes(int part, boolean in, Cave cave) {
            if (cave.figure(part, Cave.ROPE) == 0) {
                return NONE;
            }
            return 2 * (in ? cave.inMinutes(part) : cave.outMinutes(part, 1));
        }

        /** Lamps that do not last the step are out ahead of it; each round puts one out or is the last. */
        private int litMinutes(int part, boolean in, Cave cave, Lamps lamps) {
            for (int round = 0; round <= MOST_GOERS; round++) {
                int going = going();
                if (going == 0) {
                    return NONE;
                }
                int toALight = lamps.toALight(going);
                int minutes = in ? cave.inMinutes(part) : cave.outMinutes(part, toALight);
                if (!putOutBelow(minutes)) {
                    return minutes;
                }
            }
            return NONE;
        }

        private int going() {
            int n = 0;
            for (int i = 0; i < MOST_GOERS; i++) {
                n += goes[i] ? 1 : 0;
            }
            return n;
        }

        private boolean putOutBelow(int minutes) {
            boolean any = false;
            for (int i = 0; i < MOST_GOERS; i++) {
                if (goes[i] && left[i] < minutes) {
                    putOut(i);
                    any = true;
                }
            }
            return any;
        }

        private void burn(int minutes) {
            for (int i = 0; i < MOST_GOERS; i++) {
                if (goes[i]) {
                    left[i] -= minutes;
                }
            }
        }
    }

    /** Which PARTS to go unlit, in and out, so that one lamp lasts. */
    private static final class Unlit {
        private int minutes = NONE;
        private int bits = NONE;

        int minutes() {
            return minutes;
        }

        int bits() {
            return bits;
        }

        /** Bits are tried from the least on, so of like ones the least stay. */
        void search(Cave cave, int k, int burn) {
            int all = cave.sum(Cave.IN, k) + cave.sum(Cave.OUT, k);
            int ropes = ropeBits(cave, k);
            int leastDark = NONE;
            minutes = NONE;
            bits = NONE;
            for (int tried = 0; tried < 1 << k; tried++) {
                if ((tried & ~ropes) != 0) {
                    continue;
                }
                int darkened = minutesOf(cave, k, tried);
                if (all - darkened <= burn && (leastDark == NONE || darkened < leastDark)) {
                    leastDark = darkened;
                    minutes = all + darkened;
                    bits = tried;
                }
            }
        }

        private static int ropeBits(Cave cave, int k) {
            int ropes = 0;
            for (int i = 0; i < k; i++) {
                ropes |= cave.figure(i, Cave.ROPE) << i;
            }
            return ropes;
        }

        /** What the PARTS of these bits take in and out, when they are lit. */
        private static int minutesOf(Cave cave, int k, int chosen) {
            int sum = 0;
            for (int i = 0; i < k; i++) {
                if ((chosen >> i & 1) == 1) {
                    sum += cave.figure(i, Cave.IN) + cave.figure(i, Cave.OUT);
                }
            }
            return sum;
        }
    }

    /** SIDE WAYS, and the order in which they are tried. */
    private static final class SideWays {
        static final int MOST = 6;

        private final int[] chances = new int[MOST];
        private final int[] minutes = new int[MOST];
        private final int[] order = new int[MOST];
        private int size = 0;

        int size() {
            return size;
        }

        boolean add(int sixteenths, int takes) {
            if (size >= MOST || allChances() + sixteenths > LAKE) {
                return false;
            }
            chances[size] = sixteenths;
            minutes[size] = takes;
            size++;
            sort();
            return true;
        }

        boolean dropLast() {
            if (size == 0) {
                return false;
            }
            size--;
            sort();
            return true;
        }

        int tried(int i) {
            return i >= 0 && i < size ? order[i] : NONE;
        }

        /** Sixteen times the mean. */
        int meanSixteenths() {
            int soFar = 0;
            int sum = 0;
            for (int i = 0; i < size; i++) {
                int way = order[i];
                soFar += minutes[way];
                sum += soFar * chances[way];
            }
            return sum + soFar * (LAKE - allChances());
        }

        private int allChances() {
            int sum = 0;
            for (int i = 0; i < size; i++) {
                sum += chances[i];
            }
            return sum;
        }

        /** A later way goes ahead of those only that it is better than, so like ones keep their order. */
        private void sort() {
            for (int way = 0; way < size; way++) {
                int at = way;
                while (at > 0 && isBetter(way, order[at - 1])) {
                    order[at] = order[at - 1];
                    at--;
                }
                order[at] = way;
            }
        }

        private boolean isBetter(int a, int b) {
            return chances[a] * minutes[b] > chances[b] * minutes[a];
        }
    }

    /** CANS that were found, and where they allow a turn. */
    private static final class Cans {
        private static final int MOST = 6;

        private final int[] place = new int[MOST];
        private final int[] owner = new int[MOST];
        private final int[] rest = new int[MOST];
        private final int[] way = new int[MOST];
        private int size = 0;

        int size() {
            return size;
        }

        boolean add(int atPlace, int goer, int left, int inOrOut) {
            if (size >= MOST) {
                return false;
            }
            place[size] = atPlace;
            owner[size] = goer;
            rest[size] = left;
            way[size] = inOrOut;
            size++;
            return true;
        }

        void clear() {
            size = 0;
        }

        boolean allow(int turn, Cave cave, Lamps lamps) {
            for (int i = 0; i < size; i++) {
                if (place[i] > turn || rest[i] != lamps.burns(owner[i]) - minutesTill(i, turn, cave)) {
                    return false;
                }
            }
            return true;
        }

        private int minutesTill(int i, int turn, Cave cave) {
            if (way[i] == 0) {
                return cave.sum(Cave.IN, place[i]);
            }
            int back = cave.sum(Cave.OUT, turn) - cave.sum(Cave.OUT, place[i]);
            return cave.sum(Cave.IN, turn) + back;
        }
    }

    /** SHEETS, and the latest FINDING. All FORMS are held as ints, cut to their bits when laid. */
    private static final class Sheets {
        static final int MOST_ITEMS = 60;
        private static final int MOST = 4;
        private static final int BYTES = 0, SHORTS = 1, INTS = 2;

        private final int[][] items = new int[MOST][MOST_ITEMS];
        private final int[] forms = new int[MOST];
        private final int[] sizes = {NONE, NONE, NONE, NONE};
        private int finding = 0;

        static boolean exists(int s) {
            return s >= 0 && s < MOST;
        }

        static boolean isForm(int form) {
            return form >= BYTES && form <= INTS;
        }

        int latestFinding() {
            return finding;
        }

        /** Its answer. */
        int found(int number) {
            finding = number;
            return -10 - number;
        }

        boolean isLost(int s) {
            return !exists(s) || sizes[s] == NONE;
        }

        int size(int s) {
            return isLost(s) ? 0 : sizes[s];
        }

        boolean alike(int s, int t) {
            return exists(s) && exists(t) && forms[s] == forms[t];
        }

        /** Whether there are n items from i on. */
        boolean holds(int s, int i, int n) {
            return i >= 0 && n >= 0 && (long) i + n <= size(s);
        }

        void make(int s, int form, int n) {
            if (!exists(s)) {
                return;
            }
            for (int i = 0; i < MOST_ITEMS; i++) {
                items[s][i] = 0;
            }
            forms[s] = form;
            sizes[s] = n;
        }

        void drop(int s) {
            if (exists(s)) {
                sizes[s] = NONE;
            }
        }

        /** The refusal of an item treated as of a FORM; 0. */
        int look(int s, int form, int i) {
            if (!exists(s) || !isForm(form)) {
                return BAD;
            }
            if (isLost(s)) {
                return found(NULL);
            }
            if (forms[s] != form) {
                return found(CAST);
            }
            return holds(s, i, 1) ? 0 : found(INDEX);
        }

        int item(int s, int i) {
            return holds(s, i, 1) ? items[s][i] : 0;
        }

        void put(int s, int i, int v) {
            if (holds(s, i, 1)) {
                items[s][i] = cut(forms[s], v);
            }
        }

        void move(int s, int i, int t, int j, int n) {
            if (holds(s, i, n) && holds(t, j, n)) {
                System.arraycopy(items[s], i, items[t], j, n);
            }
        }

        private static int cut(int form, int v) {
            if (form == BYTES) {
                return (byte) v;
            }
            return form == SHORTS ? (short) v : v;
        }
    }
}
