import java.util.Arrays;
import java.util.Random;

/**
 * What questions foresee, done: from states with walls, moats, water, wind, spades and children of all moods, each question
 * is asked of one object, and on others, filled alike, what it speaks of is done by acts. It uses no Model. Each object is
 * asked or acted on once, so that none is used for more than 512 calls.
 */
public final class ByActsTest extends Bench {
    private static final int STATES = 150;
    private static final String[] RULES = {"", "18+n*4+w", "40-m*6+n*2", "c*9+w-m*2", "(n>3)*35+12", "25+n*n-m", "9+w*2"};

    private static long state;
    private static Random random;

    public static void main(String[] args) {
        for (state = 0; state < STATES; state++) {
            promise = "state " + state + ", promise ";
            random = new Random(~state);
            levels();
            holds();
            tides();
            spells();
            raises();
            crews();
            posts();
            moats();
            spades();
            treats();
            works();
            laws();
            sights();
            summers();
        }
        due.end();
    }

    // ---- states

    /** A new object, the same each time for one state: some seventy calls. */
    private static SandKeepsSea filled() {
        Random draw = new Random(state);
        SandKeepsSea s = new SandKeepsSea();
        writeTo(s, aShore(draw));
        s.shore();
        writeTo(s, someChildren(draw));
        s.children();
        writeTo(s, RULES[draw.nextInt(RULES.length)]);
        s.rule();
        s.set(0, draw.nextInt(4));
        s.set(1, draw.nextInt(4));
        int cells = s.count(0);
        int children = s.count(1);
        s.sheet(2, children, 9, -draw.nextInt(2));
        for (int i = 0; i < 16; i++) {
            int child = draw.nextInt(children);
            int cell = draw.nextInt(cells);
            switch (draw.nextInt(8)) {
                case 0: s.spade(child); break;
                case 1: s.treat(child); break;
                case 2: s.moat(cell); break;
                case 3: s.build(1 + draw.nextInt(2)); break;
                case 4: s.tide(); break;
                default: s.go(child, cell); break;
            }
        }
        s.sheet(2, draw.nextInt(3) == 0 ? 2 : 4, draw.nextInt(10), draw.nextInt(7) - 3);
        if (draw.nextBoolean()) {
            s.pump(1 + draw.nextInt(30));
        }
        return s;
    }

    private static String aShore(Random draw) {
        StringBuilder text = new StringBuilder();
        int cells = 2 + draw.nextInt(2);
        for (int c = 0; c < cells; c++) {
            text.append(draw.nextInt(4));
            if (c < cells - 1 && draw.nextBoolean()) {
                text.append('|').append(draw.nextInt(10));
            }
        }
        return text.toString();
    }

    private static String someChildren(Random draw) {
        StringBuilder text = new StringBuilder();
        int many = 2 + draw.nextInt(3);
        for (int i = 0; i < many; i++) {
            text.append(i > 0 ? ";" : "").append(draw.nextInt(3) == 0 ? 13 : 4 + draw.nextInt(9)).append(',').append(1 + draw.nextInt(9));
            text.append(i == 0 || draw.nextInt(3) == 0 ? '-' : (char) ('a' + draw.nextInt(i)));
        }
        return text.toString();
    }

    private static int walls(SandKeepsSea s, int cell) {
        return (int) cellOf(s, cell, 1);
    }

    private static int depths(SandKeepsSea s) {
        int all = 0;
        for (int c = 0; c < s.count(0); c++) {
            all += (int) cellOf(s, c, 3);
        }
        return all;
    }

    private static int fields(SandKeepsSea s) {
        return Integer.bitCount(s.count(7));
    }

    private static boolean isHome(SandKeepsSea s, int child) {
        return childOf(s, child, 5) == NONE;
    }

    private static int mood(SandKeepsSea s, int child) {
        return (int) childOf(s, child, 3);
    }

    // ---- 21 .. 26: what is to come

    private static void levels() {
        int ahead = random.nextInt(20);
        SandKeepsSea done = filled();
        // As all is: MOATS that a TIDE takes are dug again.
        int moats = done.count(6);
        for (int i = 0; i < ahead; i++) {
            done.tide();
            for (int c = 0; c < done.count(0); c++) {
                if (((done.count(6) ^ moats) >> c & 1) != 0) {
                    done.moat(c);
                }
            }
        }
        done.tide();
        long level = rowOf(done, 0);
        x = filled();
        int low = 0;
        for (int c = 0; c < x.count(0); c++) {
            low |= cell(c, 6) < level ? 1 << c : 0;
        }
        be("21: level(" + ahead + ")", x.level(ahead), level);
        rowIs(low);
    }

    private static void holds() {
        SandKeepsSea done = filled();
        int many = -2;
        int broken = 0;
        for (int t = 1; t <= 99 && many < 0; t++) {
            broken = done.tide();
            many = broken != 0 ? t : many;
        }
        long level = rowOf(done, 0);
        x = filled();
        be("22: holds()", x.holds(), many);
        if (many > 0) {
            rowIs(broken, level);
        }
    }

    private static int tidesDone(SandKeepsSea s, int n) {
        int broken = 0;
        for (int i = 0; i < n; i++) {
            broken += s.tide() != 0 ? 1 : 0;
        }
        return broken;
    }

    private static void tides() {
        for (int n : new int[] {0, 1, 2, 9, 60}) {
            SandKeepsSea done = filled();
            int broken = tidesDone(done, n);
            x = filled();
            be("23: tides(" + n + ")", x.tides(n), broken);
            rowIs(fields(done), depths(done));
        }
    }

    private static void spells() {
        int many = -2;
        for (int n = 0; n <= 30 && many < 0; n++) {
            SandKeepsSea done = filled();
            done.build(n);
            many = done.tide() == 0 ? n : many;
        }
        x = filled();
        x.rain(1, 1, 5);
        be("24: spells()", x.spells(), many);
        rowIs(1, 2);
    }

    /** The shore is told anew with such DYKES made 9. */
    private static boolean keptBy(int raised, int cell, int v) {
        SandKeepsSea s = filled();
        StringBuilder text = new StringBuilder();
        for (int c = 0; c < s.count(0); c++) {
            text.append(cellOf(s, c, 0));
            if (c < s.count(0) - 1) {
                text.append('|').append((raised >> c & 1) != 0 ? 9 : cellOf(s, c, 4));
            }
        }
        writeTo(s, text.toString());
        s.shore();
        return s.floods(cell, v) == 1 << cell;
    }

    private static void raises() {
        x = filled();
        int cells = x.count(0);
        int cell = random.nextInt(cells);
        int v = 1 + random.nextInt(12);
        int best = NONE;
        for (int raised = 0; raised < 1 << cells - 1; raised++) {
            if (keptBy(raised, cell, v) && (best == NONE || Integer.bitCount(raised) < Integer.bitCount(best))) {
                best = raised;
            }
        }
        be("26: raise(" + cell + ", " + v + ")", x.raise(cell, v), best == NONE ? -2 : Integer.bitCount(best));
        if (best != NONE) {
            rowIs(best);
        }
    }

    // ---- 27 .. 30: who builds where

    private static boolean crewHolds(int[] at, int n) {
        SandKeepsSea s = filled();
        for (int i = 0; i < at.length; i++) {
            if (!isHome(s, i)) {
                s.home(i);
            }
            if (at[i] != NONE) {
                be("27: go", s.go(i, at[i]), 0);
            }
        }
        s.build(n);
        return s.tide() == 0;
    }

    private static void crews() {
        x = filled();
        int cells = x.count(0);
        int children = x.count(1);
        int those = random.nextInt(1 << children);
        int n = 1 + random.nextInt(9);
        int can = 0;
        for (int i = 0; i < children; i++) {
            can |= (those >> i & 1) != 0 && mood(x, i) > 0 ? 1 << i : 0;
        }
        int[] at = new int[children];
        Arrays.fill(at, NONE);
        int fewest = 99;
        long[] best = {};
        // All rows, the least first.
        for (boolean more = true; more;) {
            int size = (int) Arrays.stream(at).filter(a -> a != NONE).count();
            if (size < fewest && crewHolds(at, n)) {
                fewest = size;
                best = Arrays.stream(at).asLongStream().toArray();
            }
            int i = children - 1;
            while (i >= 0 && (at[i] == cells - 1 || (can >> i & 1) == 0)) {
                at[i] = NONE;
                i--;
            }
            more = i >= 0;
            if (more) {
                at[i]++;
            }
        }
        be("27: crew(" + those + ", " + n + ")", x.crew(those, n), fewest == 99 ? -2 : fewest);
        if (fewest < 99) {
            rowIs(best);
        }
    }

    private static void posts() {
        int children = filled().count(1);
        int cells = filled().count(0);
        for (int child = 0; child < children; child++) {
            int n = 1 + random.nextInt(9);
            int best = NONE;
            long most = 0;
            boolean can = mood(filled(), child) > 0;
            for (int c = 0; can && c < cells; c++) {
                SandKeepsSea s = filled();
                s.go(child, c);
                s.build(n);
                long least = Long.MAX_VALUE;
                for (int d = 0; d < cells; d++) {
                    least = Math.min(least, cellOf(s, d, 6) - s.level(0));
                }
                if (best == NONE || least > most) {
                    best = c;
                    most = least;
                }
            }
            x = filled();
            be("28: post(" + child + ", " + n + ")", x.post(child, n), can ? best : -2);
            if (can) {
                rowIs(1000 + most);
            }
        }
    }

    private static void moats() {
        int cells = filled().count(0);
        for (int k = 0; k <= cells; k++) {
            int best = NONE;
            int longest = 0;
            for (int those = 0; those < 1 << cells; those++) {
                if (Integer.bitCount(those) == k) {
                    SandKeepsSea s = filled();
                    for (int c = 0; c < cells; c++) {
                        if (((s.count(6) ^ those) >> c & 1) != 0) {
                            s.moat(c);
                        }
                    }
                    int holds = s.holds();
                    holds = holds == -2 ? 100 : holds;
                    if (holds > longest) {
                        longest = holds;
                        best = those;
                    }
                }
            }
            x = filled();
            be("29: moats(" + k + ")", x.moats(k), longest);
            rowIs(best);
        }
    }

    private static void spades() {
        int best = NONE;
        int most = NONE;
        x = filled();
        int limit = x.count(4);
        for (int those = 0; those < 1 << x.count(1); those++) {
            if (Integer.bitCount(those) <= limit) {
                int all = bucketsWith(those);
                if (all > most || all == most && Integer.bitCount(those) < Integer.bitCount(best)) {
                    most = all;
                    best = those;
                }
            }
        }
        be("30: spades()", x.spades(), most);
        rowIs(best);
    }

    private static int bucketsWith(int those) {
        SandKeepsSea s = filled();
        s.set(1, 8);
        int all = 0;
        for (int i = 0; i < s.count(1); i++) {
            if (childOf(s, i, 4) != (those >> i & 1)) {
                s.spade(i);
            }
            all += (int) childOf(s, i, 6);
        }
        return all;
    }

    // ---- 31, 32: moods

    /** Whether all who were at CELLS are there yet, n SPELLS behind so many treats each (two bits for each CHILD). */
    private static boolean nobodySulks(int given, int n) {
        SandKeepsSea s = filled();
        int home = s.count(8);
        for (int i = 0; i < s.count(1); i++) {
            for (int t = given >> 2 * i & 3; t > 0; t--) {
                s.treat(i);
            }
        }
        s.build(n);
        return s.count(8) == home;
    }

    private static int treatsOf(int given) {
        return Integer.bitCount(given) + Integer.bitCount(given & 0xaaaa);
    }

    private static void treats() {
        x = filled();
        int n = 1 + random.nextInt(9);
        int best = NONE;
        // Three treats are enough for any MOOD; who is at HOME gets none in the fewest.
        for (int given = 0; given < 1 << 2 * x.count(1); given++) {
            if ((best == NONE || treatsOf(given) < treatsOf(best)) && nobodySulks(given, n)) {
                best = given;
            }
        }
        be("31: treats(" + n + ")", x.treats(n), best == NONE ? -2 : treatsOf(best));
        if (best != NONE) {
            long[] each = new long[x.count(1)];
            for (int i = 0; i < each.length; i++) {
                each[i] = best >> 2 * i & 3;
            }
            rowIs(each);
        }
    }

    private static void works() {
        for (int n : new int[] {0, 1, 3, 30}) {
            SandKeepsSea done = filled();
            int built = done.build(n);
            x = filled();
            long[] each = new long[x.count(0)];
            for (int c = 0; c < each.length; c++) {
                each[c] = walls(done, c) - walls(x, c);
            }
            be("32: work(" + n + ")", x.work(n), built);
            rowIs(each);
        }
    }

    // ---- 33: laws

    private static void laws() {
        for (String other : RULES) {
            SandKeepsSea done = filled();
            writeTo(done, other);
            done.rule();
            int byOther = tidesDone(done, 20);
            int byOwn = tidesDone(filled(), 20);
            x = filled();
            be("33: law() of " + other, law(other), byOther - byOwn);
            rowIs(byOther, byOwn);
        }
    }

    // ---- 34 .. 37: who built what

    private static void sights() {
        x = filled();
        int cells = x.count(0);
        int children = x.count(1);
        int[] skill = new int[children];
        int[] amount = new int[cells];
        for (int i = 0; i < children; i++) {
            skill[i] = (int) child(i, 1);
            int at = random.nextInt(cells + 1);
            if (at < cells) {
                amount[at] += skill[i];
            }
        }
        amount[0] += random.nextInt(4) == 0 ? 1 : 0;
        int seen = random.nextInt(1 << cells);
        for (int c = 0; c < cells; c++) {
            if ((seen >> c & 1) != 0) {
                x.seen(c, amount[c]);
            }
        }
        int many = 0;
        long[] least = {};
        int[] where = new int[children];
        int[] none = new int[children];
        int[] at = new int[children];
        Arrays.fill(at, NONE);
        for (boolean more = true; more;) {
            if (fits(at, skill, amount, seen)) {
                least = many == 0 ? Arrays.stream(at).asLongStream().toArray() : least;
                many++;
                for (int i = 0; i < children; i++) {
                    where[i] |= at[i] == NONE ? 0 : 1 << at[i];
                    none[i] |= at[i] == NONE ? 1 : 0;
                }
            }
            int i = children - 1;
            while (i >= 0 && at[i] == cells - 1) {
                at[i] = NONE;
                i--;
            }
            more = i >= 0;
            if (more) {
                at[i]++;
            }
        }
        be("36: ways()", x.ways(), many);
        rowIs(least);
        for (int i = 0; i < children; i++) {
            be("37: was(" + i + ")", x.was(i), where[i]);
            rowIs(none[i]);
        }
    }

    /** Nobody at a CELL that was not seen, and at those that were as much as was seen. */
    private static boolean fits(int[] at, int[] skill, int[] amount, int seen) {
        int[] built = new int[amount.length];
        for (int i = 0; i < at.length; i++) {
            if (at[i] != NONE) {
                if ((seen >> at[i] & 1) == 0) {
                    return false;
                }
                built[at[i]] += skill[i];
            }
        }
        for (int c = 0; c < amount.length; c++) {
            if ((seen >> c & 1) != 0 && built[c] != amount[c]) {
                return false;
            }
        }
        return true;
    }

    // ---- 40: summers

    private static long drawn;

    private static int draw(int n) {
        drawn = (drawn * 1103515245L + 12345L) % 4294967296L;
        return (int) (drawn / 65536 % n);
    }

    private static void summers() {
        for (int n : new int[] {1, 3, 10, 60}) {
            int seed = random.nextInt();
            drawn = seed & 0xffffffffL;
            SandKeepsSea done = filled();
            int cells = done.count(0);
            int children = done.count(1);
            int broken = 0;
            for (int i = 0; i < n; i++) {
                int what = draw(4);
                if (what == 3) {
                    broken += done.tide() != 0 ? 1 : 0;
                } else if (what == 2) {
                    int child = draw(children);
                    done.go(child, draw(cells));
                } else {
                    done.build(1);
                }
            }
            x = filled();
            be("40: summers(" + seed + ", " + n + ")", x.summers(seed, n), broken);
            rowIs(fields(done), Integer.bitCount(done.count(8)));
        }
    }
}
