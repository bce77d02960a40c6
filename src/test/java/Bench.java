import java.util.NoSuchElementException;

/** What the tests of the promises share: the object on the bench, its texts, and answers as numbers. */
class Bench {
    /** Stands for a NoSuchElementException. */
    static final long NOTHING = Long.MIN_VALUE;
    static final int NONE = SandKeepsSea.NONE;
    static final int MIN = Integer.MIN_VALUE;
    static final int MAX = Integer.MAX_VALUE;
    static final String TWELVE = "000000000000";
    static final String EIGHT = "7,1-;7,2-;7,3-;7,4-;7,5-;7,6-;7,7-;7,8-";
    /** Numbers of no CELL and of no CHILD. */
    static final int[] FAR = {MIN, -2, -1, 12, 13, 31, 32, 33, 64, MAX};
    static final Due due = new Due();

    static SandKeepsSea x;
    static String promise = "";

    static void start(String name) {
        promise = "promise " + name + ": ";
        x = new SandKeepsSea();
    }

    static void be(String what, long got, long want) {
        due.be(promise + what, got, want);
    }

    static void yes(String what, boolean got) {
        due.be(promise + what, got, true);
    }

    static void no(String what, boolean got) {
        due.be(promise + what, got, false);
    }

    /** The whole ROW. */
    static void rowIs(long... numbers) {
        be("numbers of the row", x.count(12), numbers.length);
        for (int i = 0; i < numbers.length; i++) {
            be("row(" + i + ")", row(i), numbers[i]);
        }
        be("row(" + numbers.length + ")", row(numbers.length), NOTHING);
    }

    static long row(int i) {
        return rowOf(x, i);
    }

    static long cell(int c, int what) {
        return cellOf(x, c, what);
    }

    static long child(int c, int what) {
        return childOf(x, c, what);
    }

    static long rowOf(SandKeepsSea s, int i) {
        try {
            return s.row(i);
        } catch (NoSuchElementException e) {
            return NOTHING;
        }
    }

    static long cellOf(SandKeepsSea s, int c, int what) {
        try {
            return s.cell(c, what);
        } catch (NoSuchElementException e) {
            return NOTHING;
        }
    }

    static long childOf(SandKeepsSea s, int c, int what) {
        try {
            return s.child(c, what);
        } catch (NoSuchElementException e) {
            return NOTHING;
        }
    }

    static void write(String t) {
        writeTo(x, t);
    }

    static void writeTo(SandKeepsSea s, String t) {
        s.end(0);
        for (int p = 0; p < t.length(); p += 4) {
            int v = 0;
            for (int k = p; k < p + 4; k++) {
                v = v << 8 | (k < t.length() ? t.charAt(k) : 0);
            }
            s.sign(v);
        }
        s.end(t.length());
    }

    static int shore(String t) {
        write(t);
        int answer = x.shore();
        be("signs behind shore()", x.count(13), 0);
        return answer;
    }

    static int children(String t) {
        write(t);
        int answer = x.children();
        be("signs behind children()", x.count(13), 0);
        return answer;
    }

    static int rule(String t) {
        write(t);
        int answer = x.rule();
        be("signs behind rule()", x.count(13), 0);
        return answer;
    }

    static int summer(String t) {
        write(t);
        int answer = x.summer();
        be("signs behind summer()", x.count(13), 0);
        return answer;
    }

    static int law(String t) {
        write(t);
        int answer = x.law();
        be("signs behind law()", x.count(13), 0);
        return answer;
    }

    /** LEVEL of the next TIDE by a RULE that is taken. */
    static int levelBy(String t) {
        be("rule " + t, rule(t), 0);
        return x.level(0);
    }

    static String times(String t, int n) {
        return t.repeat(n);
    }

    /** MOODS of all CHILDREN, a digit each. */
    static long moodsTold() {
        long all = 0;
        for (int i = 0; i < x.count(1); i++) {
            all = all * 10 + child(i, 3);
        }
        return all;
    }

    /** CHILDREN a of SKILL 1 and b of SKILL 9, by whom wall() is built. */
    static final String BUILDERS = "4,1-;4,9-";

    /** WALL at a CELL, of so many by now, is made so high by BUILDERS, who are HOME then; all MOODS are 9 or less. */
    static void wall(int cell, int now, int height) {
        int had = now;
        while (had < height) {
            int lack = height - had;
            int builder = lack >= 9 ? 1 : 0;
            x.sheet(2, 8, 9, 0);
            x.go(builder, cell);
            had += x.build(Math.min(7, builder == 1 ? lack / 9 : lack));
            x.home(builder);
        }
        be("wall at " + cell, cell(cell, 1), height);
    }
}
