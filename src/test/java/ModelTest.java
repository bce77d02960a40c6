import java.util.Random;

/**
 * Runs of drawn calls on SandKeepsSea and on Model: every answer must agree, what is asked between them, and at a run's
 * end all that can be asked. No object is used for more than 512 calls, since the document promises nothing beyond.
 */
public final class ModelTest {
    private static final int MOST_CALLS = 512;
    /** What one step asks at most: a text of 80 signs and the call that reads it, and what is asked behind it. */
    private static final int CALLS_OF_STEP = 23 + 5;
    private static final int[] EDGES = {Integer.MIN_VALUE, -2, -1, 0, 1, 2, 3, 4, 5, 8, 9, 10, 12, 13, 30, 31, 60, 61,
        99, 100, 999, 1000, Integer.MAX_VALUE};
    private static final String[] RULES = {"30+w*10+n*5", "n*7", "20+(n>3)*c*4-m*6", "-(5-w)*12/n", "999*999*999*n",
        "((((n))))*9", "w=n", "1<2<3", "(1<2)<3", "n--w", "1234", "10/0+n*n", "50-m*10", "(((((n)))))", "n+", ")",
        "30+n*9", "n*c", "45-n*6+w*3", "1+1+1+1+1+1+1+1+1+1+1+1+1+1+1+1+1+1+1+1", "n+1+1+1+1+1+1+1+1+1+1+1+1+1+1+1+1+1+1+1+1+1"};
    private static final String RULE_SIGNS = "0123456789nwcm+-*/<>=()nwcm+-*/()x";
    private static final String TALE_SIGNS = "ghstmbwabcdefghijkl0123456789x";

    private final Random random;
    private final Due due;
    private final SandKeepsSea x = new SandKeepsSea();
    private final Model y = new Model();
    /** How often something is asked between two calls: the fewer, the longer the run. */
    private final int glances;
    private int asked;
    private String last = "";

    private ModelTest(long seed, Due due) {
        random = new Random(seed);
        this.due = due;
        glances = random.nextInt(5);
    }

    public static void main(String[] args) {
        int runs = args.length > 0 ? Integer.parseInt(args[0]) : 4000;
        long from = args.length > 1 ? Long.parseLong(args[1]) : 0;
        Due due = new Due();
        for (long seed = from; seed < from + runs && !due.anyWrong(); seed++) {
            new ModelTest(seed, due).run(seed);
        }
        due.end();
    }

    private void run(long seed) {
        last = "seed " + seed + ", at first: ";
        call(2);
        call(3);
        call(5);
        if (random.nextBoolean()) {
            highWalls();
        }
        for (int i = 0; asked + CALLS_OF_STEP + callsOfSame() <= MOST_CALLS && !due.anyWrong(); i++) {
            last = "seed " + seed + ", call " + i + ": ";
            call(random.nextInt(60));
            for (int g = 0; g < glances; g++) {
                glance();
            }
        }
        same();
        due.be("seed " + seed + ": calls of one object", asked <= MOST_CALLS, true);
    }

    /** Walls such as children of MOOD 9 build, and some MOATS: a run is too short to come there by drawn calls. */
    private void highWalls() {
        for (int round = random.nextInt(4); round >= 0; round--) {
            be("sheet(2, 8, 9, 0)", x.sheet(2, 8, 9, 0), y.sheet(2, 8, 9, 0));
            for (int i = 0; i < y.count(1); i++) {
                int c = random.nextInt(y.count(0));
                be("go(" + i + ", " + c + ")", x.go(i, c), y.go(i, c));
            }
            int n = 1 + random.nextInt(9);
            be("build(" + n + ")", x.build(n), y.build(n));
            int c = random.nextInt(y.count(0));
            be("moat(" + c + ")", x.moat(c), y.moat(c));
        }
    }

    /** Counts -1 .. 14, CELLS and CHILDREN with one on either side of whats -1 .. 7, numbers of the ROW likewise. */
    private int callsOfSame() {
        return 16 + 9 * (y.count(0) + 2) + 9 * (y.count(1) + 2) + y.count(12) + 2;
    }

    private int any(int most) {
        return random.nextInt(12) == 0 ? EDGES[random.nextInt(EDGES.length)] : random.nextInt(most + 1);
    }

    private int aChild() {
        return random.nextInt(8) == 0 ? any(9) : random.nextInt(Math.max(1, y.count(1)));
    }

    private int aCell() {
        return random.nextInt(8) == 0 ? any(13) : random.nextInt(y.count(0));
    }

    /** Each answer of the object under test comes by here. */
    private void be(String call, long got, long want) {
        asked++;
        due.be(last + call, got, want);
    }

    private void write(String t) {
        be("end(0)", x.end(0) ? 1 : 0, y.end(0) ? 1 : 0);
        String full = t.length() > 80 ? t.substring(0, 80) : t;
        for (int p = 0; p < full.length(); p += 4) {
            int v = 0;
            for (int k = p; k < p + 4; k++) {
                v = v << 8 | (k < full.length() ? full.charAt(k) : 0);
            }
            be("sign of " + t, x.sign(v), y.sign(v));
        }
        be("end", x.end(full.length()) ? 1 : 0, y.end(full.length()) ? 1 : 0);
    }

    private String drawn(String signs, int most) {
        StringBuilder t = new StringBuilder();
        int n = random.nextInt(most + 1);
        for (int i = 0; i < n; i++) {
            t.append(signs.charAt(random.nextInt(signs.length())));
        }
        return t.toString();
    }

    /** Sometimes a sign of a text that is right is changed, left out, or doubled. */
    private String spoiled(String t) {
        if (random.nextInt(3) != 0 || t.isEmpty()) {
            return t;
        }
        int p = random.nextInt(t.length());
        String signs = "0123456789|,;-+*/<>=()abchnwcmgst\u0000\u00ff ";
        char s = signs.charAt(random.nextInt(signs.length()));
        switch (random.nextInt(4)) {
            case 0: return t.substring(0, p) + s + t.substring(p + 1);
            case 1: return t.substring(0, p) + t.substring(p + 1);
            case 2: return t.substring(0, p) + s + t.substring(p);
            default: return t.substring(0, p);
        }
    }

    private String aShore() {
        StringBuilder t = new StringBuilder();
        int n = 1 + random.nextInt(random.nextInt(6) == 0 ? 14 : random.nextInt(3) == 0 ? 12 : 5);
        for (int i = 0; i < n; i++) {
            t.append(random.nextInt(10) < 7 ? random.nextInt(6) : random.nextInt(10));
            if (i < n - 1 && random.nextBoolean()) {
                t.append('|').append(random.nextInt(10));
            }
        }
        return spoiled(t.toString());
    }

    private String someChildren() {
        StringBuilder t = new StringBuilder();
        int had = y.count(1);
        int n = random.nextInt(8) == 0 ? 9 : 1 + random.nextInt(3);
        for (int i = 0; i < n; i++) {
            int age = random.nextInt(20) == 0 ? random.nextInt(100) : random.nextInt(3) == 0 ? 13 : 4 + random.nextInt(10);
            t.append(i > 0 ? ";" : "").append(random.nextInt(20) == 0 && age < 10 ? "0" : "").append(age).append(',');
            t.append(1 + random.nextInt(9));
            t.append(had + i == 0 || random.nextInt(3) == 0 ? '-' : (char) ('a' + random.nextInt(Math.min(8, had + i))));
        }
        return spoiled(t.toString());
    }

    private String anExpression(int deep) {
        switch (random.nextInt(deep > 4 ? 3 : 8)) {
            case 0: return "" + random.nextInt(1000);
            case 1: return "" + "nwcm".charAt(random.nextInt(4));
            case 2: return "-" + "nwcm".charAt(random.nextInt(4));
            case 3: return "(" + anExpression(deep + 1) + ")";
            case 4: return anExpression(deep + 1) + "*" + anExpression(deep + 1);
            case 5: return anExpression(deep + 1) + "+" + anExpression(deep + 1);
            case 6: return anExpression(deep + 1) + "-" + anExpression(deep + 1);
            default: return anExpression(deep + 1) + "/<>=".charAt(random.nextInt(4)) + anExpression(deep + 1);
        }
    }

    private String aRule() {
        switch (random.nextInt(6)) {
            case 0: return "";
            case 1: return drawn(RULE_SIGNS, 45);
            case 2:
            case 3: return spoiled(anExpression(0));
            default: return spoiled(RULES[random.nextInt(RULES.length)]);
        }
    }

    private String aTale() {
        StringBuilder t = new StringBuilder();
        int n = random.nextInt(random.nextInt(5) == 0 ? 32 : 8);
        for (int i = 0; i < n; i++) {
            char child = (char) ('a' + random.nextInt(random.nextInt(9) == 0 ? 8 : Math.max(1, y.count(1))));
            char cell = (char) ('a' + random.nextInt(random.nextInt(9) == 0 ? 12 : y.count(0)));
            switch (random.nextInt(7)) {
                case 0: t.append('g').append(child).append(cell); break;
                case 1: t.append('h').append(child); break;
                case 2: t.append('s').append(child); break;
                case 3: t.append('t').append(child); break;
                case 4: t.append('m').append(cell); break;
                case 5: t.append('b').append(random.nextInt(10)); break;
                default: t.append('w'); break;
            }
        }
        return random.nextInt(10) == 0 ? drawn(TALE_SIGNS, 20) : spoiled(t.toString());
    }

    private void call(int kind) {
        int a;
        int b;
        switch (kind) {
            case 0:
                a = random.nextInt();
                be("sign(" + a + ")", x.sign(a), y.sign(a));
                break;
            case 1:
                a = any(80);
                be("end(" + a + ")", x.end(a) ? 1 : 0, y.end(a) ? 1 : 0);
                break;
            case 2:
                if (y.count(2) > 0 && random.nextInt(3) > 0) {
                    return;
                }
                String s = aShore();
                write(s);
                be("shore() of " + s, x.shore(), y.shore());
                break;
            case 3:
            case 4:
                String t = someChildren();
                write(t);
                be("children() of " + t, x.children(), y.children());
                break;
            case 5:
                String r = aRule();
                write(r);
                be("rule() of " + r, x.rule(), y.rule());
                break;
            case 6:
                a = any(2);
                b = any(9);
                be("set(" + a + ", " + b + ")", x.set(a, b), y.set(a, b));
                break;
            case 7:
                a = any(3);
                b = any(8);
                int f = random.nextBoolean() ? any(10) : random.nextInt();
                int step = random.nextBoolean() ? any(3) : random.nextInt();
                be("sheet(" + a + ", " + b + ", " + f + ", " + step + ")", x.sheet(a, b, f, step), y.sheet(a, b, f, step));
                break;
            default:
                if (kind < 34) {
                    act(kind);
                } else {
                    ask(kind);
                }
        }
    }

    private void act(int kind) {
        int a = aChild();
        int c = aCell();
        switch (kind) {
            case 8: case 9: case 10: case 11: case 12: case 13:
                be("go(" + a + ", " + c + ")", x.go(a, c), y.go(a, c));
                break;
            case 14:
                be("home(" + a + ")", x.home(a), y.home(a));
                break;
            case 15: case 16:
                be("spade(" + a + ")", x.spade(a), y.spade(a));
                break;
            case 17: case 18: case 19:
                be("treat(" + a + ")", x.treat(a), y.treat(a));
                break;
            case 20: case 21:
                be("moat(" + c + ")", x.moat(c), y.moat(c));
                break;
            case 22: case 23: case 24:
                a = random.nextInt(4) == 0 ? any(31) : random.nextInt(4);
                be("build(" + a + ")", x.build(a), y.build(a));
                break;
            case 25: case 26:
                be("tide()", x.tide(), y.tide());
                break;
            case 27:
                a = any(99);
                be("pump(" + a + ")", x.pump(a), y.pump(a));
                break;
            case 28: case 29:
                String t = aTale();
                write(t);
                be("summer() of " + t, x.summer(), y.summer());
                break;
            case 30:
                be("undo()", x.undo(), y.undo());
                break;
            case 31:
                a = any(2);
                be("keep(" + a + ")", x.keep(a) ? 1 : 0, y.keep(a) ? 1 : 0);
                break;
            case 32:
                a = any(2);
                be("again(" + a + ")", x.again(a) ? 1 : 0, y.again(a) ? 1 : 0);
                break;
            default:
                for (int i = random.nextInt(20); i > 0; i--) {
                    be("undo()", x.undo(), y.undo());
                }
        }
    }

    private void ask(int kind) {
        int a = aChild();
        int c = aCell();
        int n = any(9);
        int v = any(random.nextBoolean() ? 12 : 999);
        switch (kind) {
            case 34: n = any(99); be("level(" + n + ")", x.level(n), y.level(n)); break;
            case 35: be("holds()", x.holds(), y.holds()); break;
            case 36: n = any(60); be("tides(" + n + ")", x.tides(n), y.tides(n)); break;
            case 37: be("spells()", x.spells(), y.spells()); break;
            case 38: be("floods(" + c + ", " + v + ")", x.floods(c, v), y.floods(c, v)); break;
            case 39: be("raise(" + c + ", " + v + ")", x.raise(c, v), y.raise(c, v)); break;
            case 40: case 41: case 42:
                askCrew(n);
                break;
            case 43: case 44: be("post(" + a + ", " + n + ")", x.post(a, n), y.post(a, n)); break;
            case 45: n = any(4); be("moats(" + n + ")", x.moats(n), y.moats(n)); break;
            case 46: case 47: be("spades()", x.spades(), y.spades()); break;
            case 48: be("treats(" + n + ")", x.treats(n), y.treats(n)); break;
            case 49: n = any(30); be("work(" + n + ")", x.work(n), y.work(n)); break;
            case 50:
                String r = aRule();
                write(r);
                be("law() of " + r, x.law(), y.law());
                break;
            case 51: case 52: case 53:
                v = any(random.nextInt(4) == 0 ? 100 : 15);
                be("seen(" + c + ", " + v + ")", x.seen(c, v), y.seen(c, v));
                break;
            case 54: be("forget()", x.forget(), y.forget()); break;
            case 55: be("ways()", x.ways(), y.ways()); break;
            case 56: be("was(" + a + ")", x.was(a), y.was(a)); break;
            case 57:
                n = any(12);
                int k = any(random.nextBoolean() ? 12 : 4);
                int p = any(10);
                be("rain(" + n + ", " + k + ", " + p + ")", x.rain(n, k, p), y.rain(n, k, p));
                break;
            case 58:
                v = any(99);
                be("rests(" + v + ", " + n + ")", x.rests(v, n), y.rests(v, n));
                break;
            default:
                int seed = random.nextInt();
                n = any(60);
                be("summers(" + seed + ", " + n + ")", x.summers(seed, n), y.summers(seed, n));
        }
    }

    /** The model tries 13 to the 4 rows, so a shore of many CELLS is asked for fewer CHILDREN. */
    private void askCrew(int n) {
        int those = random.nextInt(256) & (1 << y.count(1)) - 1;
        int most = y.count(0) > 6 ? 2 : 4;
        while (Integer.bitCount(those) > most && random.nextInt(20) > 0) {
            those &= those - 1;
        }
        if (Integer.bitCount(those) > most && Integer.bitCount(those) <= 4) {
            those &= those - 1;
        }
        if (random.nextInt(15) == 0) {
            those = any(300) | 512;
        }
        be("crew(" + those + ", " + n + ")", x.crew(those, n), y.crew(those, n));
    }

    /** One question about what there is, drawn. */
    private void glance() {
        switch (random.nextInt(4)) {
            case 0: sameCount(random.nextInt(14)); break;
            case 1: sameCell(random.nextInt(y.count(0)), random.nextInt(7)); break;
            case 2: sameChild(random.nextInt(Math.max(1, y.count(1))), random.nextInt(7)); break;
            default: sameRow(random.nextInt(y.count(12) + 1)); break;
        }
    }

    /** All there is; where the last call made a shore or a crowd so large that 512 calls are too few, the rest is left out. */
    private void same() {
        for (int i = -1; i <= 14; i++) {
            sameCount(i);
        }
        for (int c = -1; c <= y.count(0); c++) {
            for (int what = -1; what <= 7; what++) {
                sameCell(c, what);
            }
        }
        for (int c = -1; c <= y.count(1); c++) {
            for (int what = -1; what <= 7; what++) {
                sameChild(c, what);
            }
        }
        for (int i = -1; i <= y.count(12); i++) {
            sameRow(i);
        }
    }

    private void sameCount(int what) {
        if (asked >= MOST_CALLS) {
            return;
        }
        be("count(" + what + ")", x.count(what), y.count(what));
    }

    private void sameCell(int c, int what) {
        if (asked >= MOST_CALLS) {
            return;
        }
        be("cell(" + c + ", " + what + ")", Bench.cellOf(x, c, what), orFar(y.cell(c, what)));
    }

    private void sameChild(int c, int what) {
        if (asked >= MOST_CALLS) {
            return;
        }
        be("child(" + c + ", " + what + ")", Bench.childOf(x, c, what), orFar(y.child(c, what)));
    }

    private void sameRow(int i) {
        if (asked >= MOST_CALLS) {
            return;
        }
        Long want = y.row(i);
        be("row(" + i + ")", Bench.rowOf(x, i), want == null ? Bench.NOTHING : want);
    }

    private static long orFar(Integer v) {
        return v == null ? Bench.NOTHING : v;
    }
}
