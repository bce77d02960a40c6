/** The sentences of "Terms", in their order: each over all, or the telling part, of what it speaks of. */
public final class TermsTest extends Bench {
    public static void main(String[] args) {
        cells();
        shoreTold();
        tops();
        childrenThereAre();
        spadesHad();
        buckets();
        friendsBeside();
        spells();
        levelWithoutRule();
        levelsByTide();
        breaksAndWash();
        waterGoesOn();
        tideNumbers();
        rowsTold();
        leastRows();
        fractions();
        textsThatAreRead();
        due.end();
    }

    private static void term(String name) {
        promise = "terms, " + name + ": ";
        x = new SandKeepsSea();
    }

    // ---- CELLS

    private static void cells() {
        term("CELLS 1 .. 12, at first 1, with BASE, WALL 0, no MOAT, DEPTH 0, DYKES");
        be("at first", x.count(0), 1);
        String bases = "135790246897";
        for (int n = 1; n <= 12; n++) {
            be("told", shore(bases.substring(0, n)), n);
            for (int c = 0; c < n; c++) {
                be("base", cell(c, 0), bases.charAt(c) - '0');
                be("wall, moat, depth, dyke", cell(c, 1) + cell(c, 2) + cell(c, 3) + cell(c, 4), 0);
            }
            if (n % 4 == 0) {
                x = new SandKeepsSea();
            }
        }
        be("no thirteenth", shore(bases + "1"), -13);
    }

    private static void shoreTold() {
        term("THE SHORE: digits, between two of them perhaps | and a digit, else 0");
        // Which of four DYKES are told, as bits.
        for (int told = 0; told < 16; told++) {
            StringBuilder text = new StringBuilder();
            for (int c = 0; c < 5; c++) {
                text.append(c + 1);
                if (c < 4 && (told >> c & 1) != 0) {
                    text.append('|').append(9 - c);
                }
            }
            be("shore " + text, shore(text.toString()), 5);
            for (int c = 0; c < 5; c++) {
                be("base", cell(c, 0), c + 1);
                be("dyke", cell(c, 4), c < 4 && (told >> c & 1) != 0 ? 9 - c : 0);
            }
        }
    }

    private static void tops() {
        for (int base = 0; base <= 9; base++) {
            term("TOP is 10 times BASE, and WALL");
            shore("" + base);
            children("7,7-");
            be("without a wall", cell(0, 6), 10 * base);
            x.go(0, 0);
            x.build(1);
            be("with one", cell(0, 6), 10 * base + 7);
            x.build(1);
            be("with a higher one", cell(0, 6), 10 * base + 14);
        }
    }

    // ---- CHILDREN

    private static void childrenThereAre() {
        for (int age = 4; age <= 13; age++) {
            for (int skill = 1; skill <= 9; skill++) {
                term("CHILDREN: AGE 4 .. 13, SKILL 1 .. 9; at first MOOD 5, no spade, HOME");
                be("come", children("4,1-;" + age + "," + skill + "a;" + age + "," + skill + "-"), 3);
                for (int i = 1; i <= 2; i++) {
                    be("age", child(i, 0), age);
                    be("skill", child(i, 1), skill);
                    be("friend", child(i, 2), i == 1 ? 0 : NONE);
                    be("mood", child(i, 3), 5);
                    be("spade", child(i, 4), 0);
                    be("home", child(i, 5), NONE);
                }
            }
        }
        term("CHILDREN: at most 8, written a .. h");
        be("eight", children(EIGHT), 8);
        be("no ninth", children("7,1-"), -1);
    }

    private static void spadesHad() {
        term("SPADES 0 .. 8, at first 2: so many may have one");
        children(EIGHT);
        be("at first", x.count(4), 2);
        for (int limit = 0; limit <= 8; limit++) {
            x.set(1, 8);
            for (int i = 0; i < 8; i++) {
                if (child(i, 4) == 1) {
                    x.spade(i);
                }
            }
            x.set(1, limit);
            int had = 0;
            for (int i = 7; i >= 0; i--) {
                had += x.spade(i) > 0 ? 1 : 0;
            }
            be("as many as " + limit, had, limit);
        }
    }

    /** All AGES, SKILLS, MOODS, with and without a spade and a FRIEND beside. */
    private static void buckets() {
        for (int age = 4; age <= 13; age++) {
            for (int skill = 1; skill <= 9; skill++) {
                term("BUCKETS of age " + age + " and skill " + skill);
                children("5,1-;" + age + "," + skill + "a");
                x.go(1, 0);
                for (int more = 0; more < 4; more++) {
                    boolean spade = more % 2 == 1;
                    boolean friend = more >= 2;
                    if (spade != (child(1, 4) == 1)) {
                        x.spade(1);
                    }
                    if (friend) {
                        x.go(0, 0);
                    }
                    for (int mood = 0; mood <= 9; mood++) {
                        x.sheet(2, 2, 9, mood - 9);
                        int want = skill + (spade ? 2 : 0) + (friend ? 1 : 0);
                        want = mood < 3 ? want / 2 : want;
                        want = age == 13 ? want / 2 : want;
                        be("mood " + mood + (spade ? ", spade" : "") + (friend ? ", friend" : ""), child(1, 6), want);
                    }
                }
            }
        }
    }

    /** All places of two who are friends, and of one who is none: HOME or one of four CELLS. */
    private static void friendsBeside() {
        for (int a = NONE; a < 4; a++) {
            for (int b = NONE; b < 4; b++) {
                for (int c = NONE; c < 4; c++) {
                    term("BUCKETS beside a FRIEND, at " + a + ", " + b + ", " + c);
                    shore("0000");
                    children("7,1-;7,3a;7,5a");
                    int[] at = {a, b, c};
                    for (int i = 0; i < 3; i++) {
                        if (at[i] != NONE) {
                            x.go(i, at[i]);
                        }
                    }
                    boolean ab = beside(a, b);
                    boolean ac = beside(a, c);
                    be("of whom both are friends", child(0, 6), a == NONE ? 0 : 1 + (ab || ac ? 1 : 0));
                    be("friend of the first", child(1, 6), b == NONE ? 0 : 3 + (ab ? 1 : 0));
                    be("friend of the first", child(2, 6), c == NONE ? 0 : 5 + (ac ? 1 : 0));
                }
            }
        }
    }

    private static boolean beside(int one, int other) {
        return one != NONE && other != NONE && Math.abs(one - other) <= 1;
    }

    private static void spells() {
        for (int mood = 0; mood <= 9; mood++) {
            term("A SPELL: BUCKETS to WALL, MOOD 1 less, HOME with MOOD 0, from mood " + mood);
            shore("00");
            children("7,8-;7,8-");
            x.go(0, 1);
            x.sheet(2, 2, mood, 0);
            int own = mood;
            int wall = 0;
            for (int n = 1; n <= 11; n++) {
                boolean there = n <= Math.max(1, mood);
                int adds = there ? own < 3 ? 4 : 8 : 0;
                be("spell " + n, x.build(1), adds);
                wall += adds;
                boolean goes = there && own <= 1;
                own = there ? Math.max(0, own - 1) : own;
                rowIs(goes ? 1 : 0);
                be("wall", cell(1, 1), wall);
                be("mood", child(0, 3), own);
                be("where", child(0, 5), own == 0 ? NONE : 1);
                be("who is home keeps its mood", child(1, 3), mood);
                be("the other wall", cell(0, 1), 0);
            }
        }
    }

    // ---- WIND, THE RULE

    private static void levelWithoutRule() {
        term("WIND 0 .. 9, at first 0; no RULE: 30+w*10+n*5");
        be("wind at first", x.count(3), 0);
        for (int w = 0; w <= 9; w++) {
            x.set(0, w);
            for (int n = 0; n < 20; n++) {
                be("wind " + w + ", in " + n, x.level(n), 30 + w * 10 + n % 8 * 5);
            }
        }
    }

    private static void levelsByTide() {
        term("n its number by 8, c how many CELLS, m how many MOATS, of a TIDE");
        for (int cells = 1; cells <= 12; cells++) {
            shore(TWELVE.substring(0, cells));
            be("c", levelBy("c*10"), cells * 10);
            be("m", levelBy("m*10"), 0);
            x.moat(cells - 1);
            be("m", x.level(0), 10);
            x.moat(0);
            be("m", x.level(0), cells == 1 ? 0 : 20);
            if (cells % 4 == 0) {
                x = new SandKeepsSea();
            }
        }
        term("LEVEL of each TIDE by what there is then");
        shore("09");
        x.moat(0);
        x.moat(1);
        rule("m*7+n");
        be("two moats", x.level(0), 14);
        x.tide();
        rowIs(14, 14 + 13);
        be("one broke", x.level(0), 8);
        x.tide();
        be("n 1", x.count(2), 2);
        rowIs(8, 8 + 8);
    }

    // ---- A TIDE

    /** One CELL of each BASE with a few WALLS, with and without a MOAT, in TIDES round its TOP and far from it. */
    private static void breaksAndWash() {
        for (int base = 0; base <= 9; base += 3) {
            for (int wall : new int[] {0, 1, 7, 8, 30, 31}) {
                for (int moat = 0; moat <= 1; moat++) {
                    term("(1) of A TIDE, base " + base + ", wall " + wall + (moat == 1 ? ", a moat" : ""));
                    shore("" + base);
                    children(BUILDERS);
                    wall(0, 0, wall);
                    if (moat == 1) {
                        x.moat(0);
                    }
                    x.keep(0);
                    int top = 10 * base + wall;
                    for (int level : new int[] {0, 10 * base, 10 * base + 3, 10 * base + 4, 10 * base + 8, top - 1, top, top + 1, top + 2, 999}) {
                        if (level >= 0) {
                            oneTide(base, wall, moat, level);
                        }
                        x.again(0);
                    }
                }
            }
        }
    }

    private static void oneTide(int base, int wall, int moat, int level) {
        int over = level - 10 * base - wall;
        be("level", levelBy("" + level), level);
        be("breaks by " + level, x.tide(), over > 0 ? 1 : 0);
        be("depth", cell(0, 3), Math.max(0, over));
        int wash = Math.max(0, level - 10 * base) / (moat == 1 ? 8 : 4);
        be("wall", cell(0, 1), over > 0 ? wall / 2 : Math.max(0, wall - wash));
        be("moat", cell(0, 2), over > 0 ? 0 : moat);
    }

    /** Three FIELDS, all DYKES between them, water behind each. */
    private static void waterGoesOn() {
        for (int left = 0; left <= 9; left++) {
            for (int right = 0; right <= 9; right++) {
                term("(2) Water goes on over dykes of " + left + " and " + right);
                shore("0|" + left + "0|" + right + "0");
                for (int v : new int[] {1, 2, left + 1, left + 2, right + 1, right + 2, left + right + 2, left + right + 3, 40}) {
                    int overLeft = Math.max(0, v - left - 1);
                    int overRight = Math.max(0, v - right - 1);
                    flooded(1, v, overLeft, v, overRight);
                    flooded(0, v, v, overLeft, Math.max(0, overLeft - right - 1));
                    flooded(2, v, Math.max(0, overRight - left - 1), overRight, v);
                }
            }
        }
    }

    private static void flooded(int cell, int v, int... depths) {
        int fields = 0;
        int many = 0;
        int all = 0;
        for (int c = 0; c < depths.length; c++) {
            fields |= depths[c] > 0 ? 1 << c : 0;
            many += depths[c] > 0 ? 1 : 0;
            all += depths[c];
        }
        be("floods(" + cell + ", " + v + ")", x.floods(cell, v), fields);
        be("how many", row(0), many);
        be("depth of all", row(1), all);
    }

    private static void tideNumbers() {
        term("(3) TIDE is 1 more, at first 0");
        rule("n");
        for (int t = 0; t < 40; t++) {
            be("tide", x.count(2), t);
            be("breaks unless n is 0", x.tide(), t % 8 == 0 ? 0 : 1);
            be("level", row(0), t % 8);
        }
    }

    // ---- the ROW, texts

    private static void rowsTold() {
        term("ROW: told last by a call that says so; at first nothing");
        be("at first", x.count(12), 0);
        x.rain(1, 1, 5);
        rowIs(1, 2);
        x.spells();
        x.treat(0);
        x.count(12);
        x.set(0, 1);
        rowIs(1, 2);
        x.level(0);
        rowIs(1);
        x.level(100);
        rowIs(1);
    }

    private static void leastRows() {
        term("Rows are compared from the first number on");
        shore("00");
        children("7,2-;7,3-;7,5-");
        rule("5");
        // (0, 0, 1) and (1, 1, 0): the first number tells, not the last, nor their sum.
        be("all three", x.crew(7, 1), 3);
        rowIs(0, 0, 1);
        x.seen(0, 5);
        // (NONE, NONE, 0) ahead of (0, 0, NONE).
        be("ways", x.ways(), 2);
        rowIs(NONE, NONE, 0);
        x.seen(1, 5);
        be("ways", x.ways(), 2);
        rowIs(0, 0, 1);
    }

    private static void fractions() {
        for (int n = 1; n <= 12; n++) {
            term("Fractions in lowest terms, 0 by 1");
            for (int k = 1; k <= n; k++) {
                for (int p = 0; p <= 10; p += 2) {
                    x.rain(n, k, p);
                    long upper = row(0);
                    long lower = row(1);
                    be("no common part of " + upper + " by " + lower, common(upper, lower), 1);
                    yes("0 .. 1", upper >= 0 && upper <= lower && lower >= 1);
                }
            }
        }
    }

    private static long common(long a, long b) {
        return b == 0 ? a : common(b, a % b);
    }

    private static void textsThatAreRead() {
        term("A call that reads THE TEXT empties it, refused or not; others leave it");
        String[] texts = {"", "1", "x"};
        for (String t : texts) {
            shore(t);
            children(t);
            rule(t);
            summer(t);
            law(t);
        }
        write("1|23");
        x.go(0, 0);
        x.tide();
        x.build(1);
        x.undo();
        x.holds();
        x.keep(0);
        x.again(0);
        be("signs", x.count(13), 4);
        be("two cells", x.shore(), 2);
        be("dyke", cell(0, 4), 2);
    }
}
