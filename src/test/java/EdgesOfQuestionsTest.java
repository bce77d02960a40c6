/** Boundary cases of promises 21 to 40, a method for each sentence of the document that names some. */
public final class EdgesOfQuestionsTest extends Bench {
    public static void main(String[] args) {
        levels();
        holdsOne();
        holdsNinetyNine();
        tidesAhead();
        spellsNeeded();
        floodsAsked();
        raiseTen();
        raiseAsked();
        crewNumbers();
        crewTold();
        crewFewest();
        crewLeast();
        crewOfEach();
        crewMoods();
        postNumbers();
        postFirst();
        moatsNumbers();
        moatsHundred();
        moatsLeast();
        spadesMany();
        spadesLeast();
        treatsNumbers();
        treatsNine();
        workNumbers();
        laws();
        seenNumbers();
        forgotten();
        waysFew();
        waysMany();
        whereOne();
        rainNumbers();
        rainEdges();
        restsNumbers();
        restsEdges();
        summersNumbers();
        summersDrawn();
        due.end();
    }

    // ---- 21

    private static void levels() {
        start("21 (n 0 .. 99; none: another n)");
        rule("n");
        for (int n = 0; n <= 99; n++) {
            be("level(" + n + ")", x.level(n), n % 8);
        }
        x.rain(1, 1, 5);
        for (int n : new int[] {MIN, -1, 100, 101, MAX}) {
            be("level(" + n + ")", x.level(n), NONE);
        }
        rowIs(1, 2);
        x.tide();
        be("from tide 1 on", x.level(0), 1);
        be("from tide 1 on", x.level(99), 100 % 8);
        start("21 (cells whose top is below it)");
        shore("1234");
        children(BUILDERS);
        wall(0, 0, 5);
        int[] heights = {0, 15, 16, 20, 21, 30, 31, 40, 41, 999};
        int[] below = {0, 0, 1, 1, 3, 3, 7, 7, 15, 15};
        for (int i = 0; i < heights.length; i++) {
            be("level", levelBy("" + heights[i]), heights[i]);
            rowIs(below[i]);
        }
        start("21 (twelve cells)");
        shore(TWELVE);
        be("level", levelBy("1"), 1);
        rowIs(4095);
    }

    // ---- 22

    private static void holdsOne() {
        start("22 (1 .. 99)");
        be("the next", x.holds(), 1);
        rowIs(1, 30);
        shore("22");
        children(BUILDERS);
        wall(1, 0, 5);
        rule("20+n*n");
        // 20, 21: the first CELL is below; the second has 5, 5, 4 (4 by 4).
        be("one of them", x.holds(), 2);
        rowIs(1, 21);
        rule("20+(n>0)*6");
        be("both", x.holds(), 2);
        rowIs(3, 26);
        x.tide();
        be("from there on", x.holds(), 1);
        start("22 (level goes on by 8)");
        shore("1");
        x.tides(0);
        rule("10+(n=0)*(1-0)");
        be("n 0 is the next", x.holds(), 1);
        rule("0");
        x.tide();
        rule("10+(n=0)");
        be("n 0 comes again in 8 tides", x.holds(), 8);
        rowIs(1, 11);
        start("22 (twelve cells)");
        shore("999999999990");
        rule("1");
        be("the last breaks", x.holds(), 1);
        rowIs(2048, 1);
    }

    /** One CELL of BASE 0 and so high a WALL, which a TIDE of 4 makes 1 less. */
    private static void worn(int height) {
        x = new SandKeepsSea();
        children(BUILDERS);
        wall(0, 0, height);
        rule("4");
        x.rain(1, 1, 5);
    }

    private static void holdsNinetyNine() {
        start("22 (-2: not in 99)");
        worn(3);
        be("3", x.holds(), 1);
        worn(4);
        be("4", x.holds(), 2);
        worn(100);
        be("100", x.holds(), 98);
        worn(101);
        be("101", x.holds(), 99);
        rowIs(1, 4);
        worn(102);
        be("102", x.holds(), -2);
        rowIs(1, 2);
        x.tide();
        be("behind a tide", x.holds(), 99);
    }

    // ---- 23

    private static void tidesAhead() {
        start("23 (n 0 .. 60; none: another n)");
        rule("n");
        for (int n = 0; n <= 60; n++) {
            int broken = 0;
            int depth = 0;
            for (int t = 0; t < n; t++) {
                broken += t % 8 > 0 ? 1 : 0;
                depth += t % 8;
            }
            be("tides(" + n + ")", x.tides(n), broken);
            rowIs(depth > 0 ? 1 : 0, depth);
        }
        x.rain(1, 1, 5);
        for (int n : new int[] {MIN, -1, 61, 62, MAX}) {
            be("tides(" + n + ")", x.tides(n), NONE);
        }
        rowIs(1, 2);
        start("23 (a tide that breaks at many cells is one; 999 at most each)");
        shore(TWELVE);
        rule("999");
        be("one", x.tides(1), 1);
        rowIs(12, 12 * 999);
        be("two", x.tides(2), 2);
        rowIs(12, 12 * 999);
        x.tide();
        be("none, what is there is there", x.tides(0), 0);
        rowIs(12, 12 * 999);
        start("23 (nobody building; by the moats there are then)");
        shore("00");
        children("7,9-");
        x.go(0, 0);
        rule("9");
        be("all break", x.tides(5), 5);
        rowIs(2, 45 + 45);
        x.moat(0);
        x.moat(1);
        rule("m*2");
        be("the first takes both moats", x.tides(5), 1);
        rowIs(2, 4 + 4);
        start("23 (from the walls and moats there are)");
        shore("09");
        children(BUILDERS);
        wall(0, 0, 9);
        rule("8");
        // 9, 2 less: 7 breaks; with a moat 9, 1 less, 8, 1 less, 7 breaks.
        be("one holds", x.tides(2), 1);
        rowIs(1, 1);
        x.moat(0);
        be("two hold", x.tides(3), 1);
        be("two hold", x.tides(2), 0);
    }

    // ---- 24

    private static void spellsNeeded() {
        start("24 (0 .. 30; -2: not by 30)");
        children("7,2-;7,4a");
        rule("0");
        be("nothing needed", x.spells(), 0);
        rule("1");
        be("nobody there", x.spells(), -2);
        x.go(0, 0);
        x.sheet(2, 2, 9, 0);
        // Seven spells of 2, then two of 1, then HOME.
        int[] heights = {1, 2, 3, 14, 15, 16, 17, 999};
        int[] needed = {1, 1, 2, 7, 8, 9, -2, -2};
        for (int i = 0; i < heights.length; i++) {
            rule("" + heights[i]);
            be("for " + heights[i], x.spells(), needed[i]);
        }
        be("questions change nothing", moodsTold(), 99);
        x.go(1, 0);
        rule("8");
        be("beside a friend", x.spells(), 1);
        rule("9");
        be("beside a friend", x.spells(), 2);
        start("24 (with the spades they have)");
        children("7,4-");
        x.go(0, 0);
        x.spade(0);
        rule("6");
        be("6 in one", x.spells(), 1);
        rule("7");
        be("7 in two", x.spells(), 2);
        start("24 (all cells)");
        shore("00");
        children("7,2-;7,4-");
        x.go(0, 0);
        rule("4");
        be("one has nobody", x.spells(), -2);
        x.go(1, 1);
        be("the slower one", x.spells(), 2);
        start("24 (the next tide, whatever was asked ahead)");
        children("7,4-");
        x.go(0, 0);
        rule("4+n");
        x.tides(5);
        be("n 0", x.spells(), 1);
        x.tide();
        be("n 1", x.spells(), 2);
        start("24 (in mood 0 one spell)");
        children("7,9-");
        x.go(0, 0);
        x.sheet(3, 0, 0, 0);
        rule("4");
        be("4", x.spells(), 1);
        rule("5");
        be("5", x.spells(), -2);
    }

    // ---- 25, 26

    private static void floodsAsked() {
        start("25 (v 1 .. 999, a cell; none: others)");
        shore("0|00|9000");
        x.rain(1, 1, 5);
        for (int v : new int[] {MIN, -1, 0, 1000, 1001, MAX}) {
            be("floods(0, " + v + ")", x.floods(0, v), NONE);
            be("raise(0, " + v + ")", x.raise(0, v), NONE);
        }
        for (int far : FAR) {
            be("no such cell", x.floods(far, 1), NONE);
            be("no such cell", x.raise(far, 1), NONE);
        }
        be("behind the last", x.floods(5, 1), NONE);
        be("behind the last", x.raise(5, 1), NONE);
        rowIs(1, 2);
        be("v 1 stays", x.floods(0, 1), 1);
        rowIs(1, 1);
        be("v 2 goes on", x.floods(0, 2), 3);
        rowIs(2, 3);
        be("v 11 to a dyke of 9", x.floods(0, 11), 3);
        rowIs(2, 21);
        be("v 12 over it", x.floods(0, 12), 7);
        rowIs(3, 24);
        be("v 13 over it and on", x.floods(0, 13), 15);
        rowIs(4, 28);
        be("v 999", x.floods(4, 999), 31);
        rowIs(5, 999 + 998 + 997 + 987 + 986);
        be("both ways", x.floods(3, 2), 28);
        rowIs(3, 4);
        start("25 (all fields dry but that one)");
        shore(TWELVE);
        rule("500");
        x.tide();
        be("one", x.floods(11, 1), 2048);
        rowIs(1, 1);
        be("through all", x.floods(11, 12), 4095);
        rowIs(12, 78);
        be("one short", x.floods(0, 11), 2047);
        be("what is there stays", cell(0, 3), 500);
    }

    private static void raiseTen() {
        for (int dyke = 0; dyke <= 9; dyke++) {
            start("26 (a dyke of " + dyke + ": raised, or not by all)");
            shore("0|" + dyke + "0");
            for (int v = 1; v <= 12; v++) {
                int want = v <= dyke + 1 ? 0 : v <= 10 ? 1 : -2;
                x.rain(1, 1, 5);
                be("raise(0, " + v + ")", x.raise(0, v), want);
                if (want < 0) {
                    rowIs(1, 2);
                } else {
                    rowIs(want);
                }
                be("raise(1, " + v + ")", x.raise(1, v), want);
            }
            be("raise(0, 999)", x.raise(0, 999), -2);
        }
    }

    private static void raiseAsked() {
        start("26 (of twelve cells)");
        shore(TWELVE);
        be("the first", x.raise(0, 10), 1);
        rowIs(1);
        be("the last", x.raise(11, 10), 1);
        rowIs(1024);
        for (int c = 1; c < 11; c++) {
            be("both sides of " + c, x.raise(c, 2), 2);
            rowIs(3 << c - 1);
            be("none for 1", x.raise(c, 1), 0);
            rowIs(0);
        }
        start("26 (one side alone)");
        shore("0|50|20");
        be("the lower one", x.raise(1, 4), 1);
        rowIs(2);
        be("the lower one", x.raise(1, 6), 1);
        rowIs(2);
        be("both", x.raise(1, 7), 2);
        rowIs(3);
        be("none", x.raise(1, 3), 0);
        shore("0|90|20");
        be("9 is high enough for 10", x.raise(1, 10), 1);
        rowIs(2);
        be("not for 11", x.raise(1, 11), -2);
        start("26 (one cell has no dyke)");
        be("999", x.raise(0, 999), 0);
        rowIs(0);
    }

    // ---- 27

    private static void crewNumbers() {
        start("27 (n 1 .. 9; none: others)");
        children("7,2-;7,3-");
        x.rain(1, 1, 5);
        for (int n : new int[] {MIN, -1, 0, 10, 11, MAX}) {
            be("crew(1, " + n + ")", x.crew(1, n), NONE);
        }
        for (int those : new int[] {MIN, -1, 4, 5, 8, 256, 512, 1 << 30, MAX}) {
            be("crew(" + those + ", 1)", x.crew(those, 1), NONE);
        }
        rowIs(1, 2);
        x.sheet(2, 2, 9, 0);
        for (int n = 1; n <= 9; n++) {
            int all = Math.min(n, 7) * 2 + Math.max(0, n - 7);
            rule("" + all);
            be("just enough in " + n, x.crew(1, n), 1);
            rowIs(0, NONE);
            rule("" + (all + 1));
            be("not enough in " + n, x.crew(1, n), -2);
            rowIs(0, NONE);
        }
        start("27 (no children)");
        be("crew(1, 1)", x.crew(1, 1), NONE);
        be("crew(0, 1)", x.crew(0, 1), -2);
        rule("0");
        be("crew(0, 1)", x.crew(0, 1), 0);
        rowIs();
    }

    private static void crewTold() {
        start("27 (-3: more than 4 were told)");
        children(EIGHT);
        rule("0");
        be("none", x.crew(0, 1), 0);
        be("four", x.crew(15, 1), 0);
        be("the last four", x.crew(240, 9), 0);
        rowIs(NONE, NONE, NONE, NONE, NONE, NONE, NONE, NONE);
        x.rain(1, 1, 5);
        be("five", x.crew(31, 1), -3);
        be("eight", x.crew(255, 1), -3);
        be("the last five", x.crew(248, 9), -3);
        rowIs(1, 2);
        be("five, n 0", x.crew(31, 0), NONE);
        be("five, n 10", x.crew(31, 10), NONE);
        be("five and one that is not", x.crew(31 | 256, 1), NONE);
        be("one that is not", x.crew(256, 1), NONE);
        x.sheet(3, 0, 0, 0);
        be("five of mood 0", x.crew(31, 1), -3);
        be("four of mood 0", x.crew(15, 1), 0);
    }

    private static void crewFewest() {
        start("27 (the fewest: each at a cell, also together)");
        children(EIGHT);
        // Of 1 2 3 4 together, of 5 6 7 8 together.
        rule("4");
        be("one", x.crew(15, 1), 1);
        rule("7");
        be("two", x.crew(15, 1), 2);
        rule("9");
        be("three", x.crew(15, 1), 3);
        rowIs(NONE, 0, 0, 0, NONE, NONE, NONE, NONE);
        rule("10");
        be("four", x.crew(15, 1), 4);
        rowIs(0, 0, 0, 0, NONE, NONE, NONE, NONE);
        rule("11");
        be("too much", x.crew(15, 1), -2);
        rule("26");
        be("the last four", x.crew(240, 1), 4);
        rowIs(NONE, NONE, NONE, NONE, 0, 0, 0, 0);
        start("27 (a cell each)");
        shore("0000");
        children(EIGHT);
        rule("1");
        be("four", x.crew(240, 1), 4);
        rowIs(NONE, NONE, NONE, NONE, 0, 1, 2, 3);
        shore("00000");
        be("five cells", x.crew(240, 1), -2);
        be("five cells", x.crew(240, 9), -2);
        shore(TWELVE);
        be("twelve cells", x.crew(240, 9), -2);
        shore("999999999990");
        be("the last of twelve", x.crew(1, 1), 1);
        rowIs(11, NONE, NONE, NONE, NONE, NONE, NONE, NONE);
        rule("2");
        be("nowhere of twelve", x.crew(1, 1), -2);
        start("27 (beside the last of twelve)");
        shore("999999999990");
        children("7,5-;7,5a");
        rule("6");
        be("one alone is too few at each of twelve", x.crew(3, 1), 2);
        rowIs(10, 11);
    }

    private static void crewLeast() {
        start("27 (of as few the least row; home is the least)");
        shore("09");
        children("7,5-;7,5-;7,5-");
        rule("5");
        be("the last one", x.crew(7, 1), 1);
        rowIs(NONE, NONE, 0);
        be("of the first two", x.crew(3, 1), 1);
        rowIs(NONE, 0, NONE);
        rule("10");
        be("the last two", x.crew(7, 1), 2);
        rowIs(NONE, 0, 0);
        start("27 (the friend beside it stands where the row is least)");
        shore("909");
        children("7,5-;7,5a");
        rule("6");
        be("two", x.crew(3, 1), 2);
        rowIs(0, 1);
        start("27 (by spades that are had; others are home)");
        children("7,5-;7,5a;7,5-");
        x.spade(2);
        x.go(0, 0);
        x.go(1, 0);
        rule("7");
        be("with a spade", x.crew(4, 1), 1);
        rowIs(NONE, NONE, 0);
        be("without", x.crew(1, 1), -2);
        rule("6");
        be("the friend is home", x.crew(1, 1), -2);
        be("where they are stays", x.count(8), 4);
        start("27 (all other children are home: none of them builds)");
        shore("0990");
        children("7,5-;7,5a;7,1-;7,1-");
        x.go(2, 0);
        x.go(3, 3);
        rule("6");
        be("two far from one another", x.crew(3, 1), -2);
        be("with those who are there now", x.crew(15, 1), 4);
        rowIs(0, 3, 0, 3);
        start("27 (by the walls there are)");
        shore("00");
        children(BUILDERS);
        wall(0, 0, 8);
        rule("9");
        be("one at each", x.crew(3, 1), 2);
        rowIs(0, 1);
        wall(0, 8, 9);
        be("one at the other", x.crew(3, 1), 1);
        rowIs(NONE, 1);
        start("27 (next tide: level by its number)");
        children("7,5-");
        rule("(n>0)*6");
        be("n 0", x.crew(1, 1), 0);
        x.tide();
        be("n 1", x.crew(1, 1), -2);
        be("n 1", x.crew(1, 2), 1);
    }

    private static void crewOfEach() {
        start("27 (each by its own mood)");
        children("7,9-;7,5-");
        x.sheet(2, 2, 9, -4);
        rule("5");
        be("b in mood 5", x.crew(2, 1), 1);
        rowIs(NONE, 0);
        x.sheet(2, 2, 1, 3);
        be("b in mood 4", x.crew(2, 1), 1);
        start("27 (each by its own age)");
        children("13,9-;12,5-;13,9-");
        rule("5");
        be("b of 12", x.crew(2, 1), 1);
        be("a of 13", x.crew(1, 1), -2);
        be("c of 13", x.crew(4, 1), -2);
        rule("4");
        be("a of 13", x.crew(1, 1), 1);
        start("27 (each by its own friends)");
        children("7,1-;7,5-;7,5b");
        rule("12");
        be("b and c", x.crew(6, 1), 2);
        rowIs(NONE, 0, 0);
        be("all three", x.crew(7, 1), 2);
        rowIs(NONE, 0, 0);
        start("27 (wherever it is now)");
        shore("099999999999");
        children("7,5-");
        x.go(0, 11);
        x.sheet(2, 1, 3, 0);
        rule("5");
        be("from the last cell", x.crew(1, 1), 1);
        rowIs(0);
        rule("7");
        be("two spells", x.crew(1, 2), 1);
    }

    private static void crewMoods() {
        start("27 (those of mood 0 can't)");
        children("7,9-;7,2-");
        x.sheet(2, 2, 0, 1);
        rule("1");
        be("mood 0", x.crew(1, 1), -2);
        be("mood 1, half", x.crew(2, 1), 1);
        rowIs(NONE, 0);
        be("both told", x.crew(3, 9), 1);
        rowIs(NONE, 0);
        rule("2");
        be("mood 1: one spell", x.crew(3, 9), -2);
        start("27 (mood 0 at a cell is home then)");
        children("7,9-");
        x.go(0, 0);
        x.sheet(3, 0, 0, 0);
        rule("1");
        be("can't", x.crew(1, 1), -2);
        start("27 (a friend of mood 0 is not beside)");
        children("7,5-;7,5a");
        x.sheet(2, 2, 5, -5);
        rule("6");
        be("can't", x.crew(3, 1), -2);
        rule("5");
        be("can", x.crew(3, 1), 1);
        rowIs(0, NONE);
        start("27 (a friend of mood 0 stands for none of those who can)");
        children("7,5-;7,5a;13,1-");
        x.sheet(2, 3, 0, 5);
        rule("6");
        be("b builds 5 alone, c none", x.crew(7, 1), -2);
        rule("5");
        be("b alone", x.crew(7, 1), 1);
        rowIs(NONE, 0, NONE);
    }

    // ---- 28

    private static void postNumbers() {
        start("28 (n 1 .. 9; -2: mood 0; none: others)");
        children("7,2-;7,3-");
        rule("10");
        x.sheet(2, 2, 9, -9);
        x.rain(1, 1, 5);
        for (int n : new int[] {MIN, -1, 0, 10, 11, MAX}) {
            be("post(0, " + n + ")", x.post(0, n), NONE);
            be("post(1, " + n + "), mood 0", x.post(1, n), NONE);
        }
        for (int far : FAR) {
            be("no such child", x.post(far, 1), NONE);
        }
        be("behind the last", x.post(2, 1), NONE);
        be("mood 0", x.post(1, 1), -2);
        be("mood 0", x.post(1, 9), -2);
        rowIs(1, 2);
        for (int n = 1; n <= 9; n++) {
            be("post(0, " + n + ")", x.post(0, n), 0);
            rowIs(1000 - 10 + Math.min(n, 7) * 2 + Math.max(0, n - 7));
        }
        start("28 (no children)");
        be("post(0, 1)", x.post(0, 1), NONE);
        start("28 (1000 and how much: the least and the most)");
        children("7,1-");
        rule("999");
        x.sheet(2, 1, 1, 0);
        be("999 too low", x.post(0, 1), 0);
        rowIs(1);
        rule("0");
        be("nothing too low", x.post(0, 1), 0);
        rowIs(1000);
        shore("9");
        be("90 over", x.post(0, 1), 0);
        rowIs(1090);
    }

    private static void postFirst() {
        start("28 (of equal ones the first)");
        shore(TWELVE);
        children("7,4-;7,4a");
        be("all equal", x.post(0, 1), 0);
        rowIs(1000 - 30);
        x.go(0, 7);
        be("all equal, though it is elsewhere", x.post(0, 1), 0);
        shore("999999999990");
        be("the lowest is the last", x.post(0, 1), 11);
        rowIs(1000 + 4 - 30);
        shore("090");
        be("the first of two", x.post(0, 1), 0);
        rowIs(1000 - 30);
        shore("909");
        x.go(0, 1);
        be("where it is already", x.post(0, 1), 1);
        rowIs(1000 + 4 - 30);
        x.spade(0);
        be("with the spade it has", x.post(0, 1), 1);
        rowIs(1000 + 6 - 30);
        start("28 (all others as they are)");
        shore("000");
        children("7,4-;7,6a;7,9-");
        x.go(1, 0);
        x.go(2, 2);
        rule("5");
        be("where nobody is", x.post(0, 1), 1);
        rowIs(1000);
        be("it is home yet", child(0, 5), NONE);
        start("28 (of the next tide, by its number)");
        children("7,4-");
        rule("n*10");
        x.tide();
        be("n 1", x.post(0, 1), 0);
        rowIs(1000 + 4 - 10);
    }

    // ---- 29

    private static void moatsNumbers() {
        start("29 (k 0 .. 4; -2: not so many cells; none: another k)");
        x.rain(1, 1, 5);
        for (int k : new int[] {MIN, -1, 5, 6, MAX}) {
            be("moats(" + k + ")", x.moats(k), NONE);
        }
        for (int cells = 1; cells <= 5; cells++) {
            shore(TWELVE.substring(0, cells));
            x.rain(1, 1, 5);
            for (int k = cells + 1; k <= 4; k++) {
                be(k + " at " + cells, x.moats(k), -2);
            }
            rowIs(1, 2);
            for (int k = 0; k <= Math.min(4, cells); k++) {
                be(k + " at " + cells, x.moats(k), 1);
                rowIs((1 << k) - 1);
            }
            be("5 at " + cells, x.moats(5), NONE);
        }
    }

    private static void moatsHundred() {
        start("29 (100, if it does not break in 99)");
        worn(101);
        be("99", x.moats(0), 99);
        rowIs(0);
        be("with a moat nothing is washed by 4", x.moats(1), 100);
        rowIs(1);
        x.moat(0);
        be("one that is there is filled", x.moats(0), 99);
        rowIs(0);
        worn(102);
        be("100", x.moats(0), 100);
        rowIs(0);
        worn(3);
        be("1", x.moats(0), 1);
        be("1", x.moats(1), 1);
        rowIs(1);
        x.moat(0);
        be("all others filled", x.moats(0), 1);
        be("questions change nothing", x.count(6), 1);
        start("29 (from the tide it is)");
        shore("1");
        rule("10+(n=2)");
        x.tide();
        be("in 2", x.moats(0), 2);
        x.tide();
        be("in 1", x.moats(0), 1);
        rule("0");
        x.tide();
        rule("10+(n=2)");
        be("in 8", x.moats(1), 8);
    }

    private static void moatsLeast() {
        start("29 (of as good ones the least)");
        shore(TWELVE);
        rule("0");
        for (int k = 0; k <= 4; k++) {
            be("all hold", x.moats(k), 100);
            rowIs((1 << k) - 1);
        }
        start("29 (where they are worth most)");
        shore("9999999909990".substring(0, 12));
        children(BUILDERS);
        wall(8, 0, 40);
        rule("20");
        // 40, 5 or 2 less each: below 20 behind 5 or 11.
        be("none", x.moats(0), 6);
        be("one", x.moats(1), 12);
        rowIs(256);
        be("two", x.moats(2), 12);
        rowIs(257);
        be("four", x.moats(4), 12);
        rowIs(256 + 7);
        start("29 (by wind and cells)");
        shore("222");
        x.set(0, 5);
        rule("w*c+5");
        be("20", x.moats(0), 100);
        x.set(0, 6);
        be("23", x.moats(0), 1);
        start("29 (m is how many)");
        shore("111");
        rule("13-m");
        be("two", x.moats(2), 1);
        be("three", x.moats(3), 100);
        rowIs(7);
    }

    // ---- 30

    private static void spadesMany() {
        for (int limit = 0; limit <= 8; limit++) {
            start("30 (as many as spades or fewer)");
            children(EIGHT);
            x.set(1, limit);
            for (int i = 0; i < 8; i++) {
                x.go(i, 0);
            }
            be(limit + " spades", x.spades(), 36 + 2 * limit);
            rowIs((1 << limit) - 1);
        }
        start("30 (no children)");
        be("none", x.spades(), 0);
        rowIs(0);
        start("30 (who is home builds nothing)");
        children(EIGHT);
        be("all home", x.spades(), 0);
        rowIs(0);
        x.spade(0);
        x.spade(1);
        x.go(7, 0);
        be("one", x.spades(), 10);
        rowIs(128);
        be("who has them stays", x.count(5), 3);
        start("30 (as many as spades, though undo left more with one)");
        children("7,4-;7,6-");
        x.go(0, 0);
        x.go(1, 0);
        x.spade(0);
        x.spade(1);
        x.spade(0);
        x.spade(1);
        x.set(1, 1);
        x.undo();
        x.undo();
        be("two are had of one", x.count(5), 3);
        be("one should", x.spades(), 4 + 6 + 2);
        rowIs(1);
    }

    private static void spadesLeast() {
        start("30 (of as good ones those with the fewest spades, then the least)");
        x.set(1, 1);
        children("13,1-;13,2-;7,3-;7,4-");
        for (int i = 0; i < 4; i++) {
            x.go(i, 0);
        }
        be("2 more", x.spades(), 0 + 1 + 5 + 4);
        rowIs(4);
        x.set(1, 2);
        be("2 and 2 more", x.spades(), 0 + 1 + 5 + 6);
        rowIs(12);
        x.set(1, 3);
        be("2, 2 and 1 more", x.spades(), 1 + 1 + 5 + 6);
        rowIs(13);
        x.sheet(2, 4, 2, 0);
        // By halves 0 0 1 2, with a spade 0 1 2 3.
        be("1, 1 and 1 more", x.spades(), 0 + 1 + 2 + 3);
        rowIs(14);
        x.set(1, 8);
        be("a spade that brings nothing is not had", x.spades(), 0 + 1 + 2 + 3);
        rowIs(14);
        x.set(1, 1);
        be("the least", x.spades(), 0 + 1 + 1 + 2);
        rowIs(2);
    }

    // ---- 31, 32

    private static void treatsNumbers() {
        start("31 (n 1 .. 9; none: another n)");
        children("7,4-");
        x.go(0, 0);
        x.rain(1, 1, 5);
        for (int n : new int[] {MIN, -1, 0, 10, 11, MAX}) {
            be("treats(" + n + ")", x.treats(n), NONE);
        }
        rowIs(1, 2);
        for (int mood = 0; mood <= 9; mood++) {
            x.sheet(2, 1, mood, 0);
            for (int n = 1; n <= 8; n++) {
                int want = 0;
                while (Math.min(9, mood + 3 * want) - n < 1) {
                    want++;
                }
                be("mood " + mood + ", treats(" + n + ")", x.treats(n), want);
                rowIs(want);
            }
        }
        be("no treat is given", moodsTold(), 9);
        start("31 (no children)");
        be("nobody", x.treats(9), 0);
        rowIs();
    }

    private static void treatsNine() {
        start("31 (-2: it can't be)");
        children("7,4-;7,4-");
        be("9, nobody at a cell", x.treats(9), 0);
        rowIs(0, 0);
        x.go(1, 0);
        x.rain(1, 1, 5);
        be("9, one at a cell", x.treats(9), -2);
        rowIs(1, 2);
        x.treat(1);
        x.treat(1);
        be("9 by mood 9", x.treats(9), -2);
        be("8 by mood 9", x.treats(8), 0);
        rowIs(0, 0);
        x.go(0, 0);
        x.sheet(3, 0, 0, 0);
        be("8 by mood 0, both", x.treats(8), 6);
        rowIs(3, 3);
        x.home(0);
        be("0 at home", x.treats(8), 3);
        rowIs(0, 3);
    }

    private static void workNumbers() {
        start("32 (n 0 .. 30; none: another n)");
        shore("00");
        children("7,4-");
        x.go(0, 1);
        x.rain(1, 1, 5);
        for (int n : new int[] {MIN, -1, 31, 32, MAX}) {
            be("work(" + n + ")", x.work(n), NONE);
        }
        rowIs(1, 2);
        int[] all = {0, 4, 8, 12, 14, 16, 16};
        for (int n = 0; n <= 6; n++) {
            be("work(" + n + ")", x.work(n), all[n]);
            rowIs(0, all[n]);
        }
        be("work(30)", x.work(30), 16);
        rowIs(0, 16);
        be("walls stay", x.count(9), 0);
        be("moods stay", moodsTold(), 5);
        be("as build(30)", x.build(30), 16);
        be("from now on", x.work(30), 0);
        rowIs(0, 0);
        start("32 (by twelve cells, eight children)");
        shore(TWELVE);
        children(EIGHT);
        for (int i = 0; i < 8; i++) {
            x.go(i, i + 4);
        }
        be("one", x.work(1), 36);
        rowIs(0, 0, 0, 0, 1, 2, 3, 4, 5, 6, 7, 8);
    }

    // ---- 33

    private static void laws() {
        start("33 (of 20 tides; less how many by the rule)");
        rule("0");
        be("all of 20", law("1"), 20);
        rowIs(20, 0);
        be("none", law("0"), 0);
        rowIs(0, 0);
        rule("1");
        be("all by the rule", law("0"), -20);
        rowIs(0, 20);
        be("those of n 7", law("n/7"), 2 - 20);
        rowIs(2, 20);
        be("those of n 3", law("n=3"), 3 - 20);
        rowIs(3, 20);
        x.tide();
        be("from the tide it is: 1 .. 20", law("n/4=1"), 9 - 20);
        rowIs(9, 20);
        start("33 (by wind, walls and moats, as tides())");
        shore("09");
        children(BUILDERS);
        wall(0, 0, 9);
        x.moat(1);
        x.set(0, 7);
        rule("0");
        // 8 by wind and the moat: 9, 2 less, 7 breaks, 3, and all that come then break.
        be("19 of 20", law("w+m"), 19);
        rowIs(19, 0);
        rule("w+m");
        be("none of 20", law("0"), -19);
        rowIs(0, 19);
        start("33 (-10000 - p, as rule())");
        x.rain(1, 1, 5);
        String[] bad = {"x", "1+", "(1", "1234", "1<2<3", "(((((1)))))", "1)"};
        for (String t : bad) {
            int byRule = rule(t);
            be("law " + t, law(t), -10000 - (-1 - byRule));
        }
        be("at 0", law(")"), -10000);
        rowIs(1, 2);
        be("the rule stays", x.level(0), 30);
        be("an empty one: none", law(""), 0);
        rule("0");
        be("an empty one: none, not the rule", law(""), 20);
        rowIs(20, 0);
    }

    // ---- 34 .. 37

    private static void seenNumbers() {
        start("34 (0 .. 99 buckets; refused: others)");
        shore(TWELVE);
        for (int v : new int[] {MIN, -1, 100, 101, MAX}) {
            be("seen(0, " + v + ")", x.seen(0, v), NONE);
        }
        for (int far : FAR) {
            be("no such cell", x.seen(far, 1), NONE);
        }
        be("none was seen", x.count(10), 0);
        be("0", x.seen(0, 0), 1);
        be("99", x.seen(11, 99), 2);
        be("which", x.count(10), 2049);
        start("34 (refused: a fifth cell)");
        shore(TWELVE);
        for (int i = 0; i < 4; i++) {
            be("cell " + 3 * i, x.seen(3 * i, 1), i + 1);
        }
        for (int c = 0; c < 12; c++) {
            if (c % 3 != 0) {
                be("a fifth", x.seen(c, 0), NONE);
            }
        }
        be("four", x.count(10), 0x249);
        for (int i = 0; i < 4; i++) {
            be("again", x.seen(3 * i, 0), 4);
        }
        be("refused again", x.seen(0, 100), NONE);
        be("four", x.forget(), 4);
        be("then others", x.seen(1, 1), 1);
        start("34 (one that was seen again: as it was last)");
        children("7,5-");
        x.seen(0, 5);
        be("5", x.ways(), 1);
        rowIs(0);
        be("4", x.seen(0, 4), 1);
        be("no way", x.ways(), 0);
        rowIs();
        be("0", x.seen(0, 0), 1);
        be("home", x.ways(), 1);
        rowIs(NONE);
        be("refused", x.seen(0, 100), NONE);
        be("as it was", x.ways(), 1);
    }

    private static void forgotten() {
        start("35 (how many there were)");
        shore("0000");
        be("none", x.forget(), 0);
        for (int many = 1; many <= 4; many++) {
            for (int c = 0; c < many; c++) {
                x.seen(c, 9);
            }
            be(many + " seen", x.forget(), many);
            be("none", x.count(10), 0);
            be("none", x.forget(), 0);
        }
        children("7,5-");
        x.seen(0, 9);
        x.forget();
        x.seen(1, 5);
        be("what was forgotten does not count", x.ways(), 1);
        rowIs(1);
    }

    private static void waysFew() {
        start("36 (no children, nothing seen)");
        be("one way", x.ways(), 1);
        rowIs();
        x.seen(0, 0);
        be("0 fits nobody", x.ways(), 1);
        rowIs();
        x.seen(0, 1);
        be("1 does not", x.ways(), 0);
        rowIs();
        start("36 (nothing seen: all at none of them)");
        children(EIGHT);
        be("one way", x.ways(), 1);
        rowIs(NONE, NONE, NONE, NONE, NONE, NONE, NONE, NONE);
        x.seen(0, 36);
        be("all", x.ways(), 1);
        rowIs(0, 0, 0, 0, 0, 0, 0, 0);
        x.seen(0, 37);
        be("one too many", x.ways(), 0);
        rowIs();
        x.seen(0, 35);
        be("all but a", x.ways(), 1);
        rowIs(NONE, 0, 0, 0, 0, 0, 0, 0);
        x.seen(0, 0);
        be("none", x.ways(), 1);
        rowIs(NONE, NONE, NONE, NONE, NONE, NONE, NONE, NONE);
        start("36 (the least row: none ahead of a cell, a lesser cell ahead of a greater)");
        shore(TWELVE);
        children("7,5-;7,5-;7,5-");
        x.seen(11, 5);
        be("three", x.ways(), 3);
        rowIs(NONE, NONE, 11);
        x.seen(0, 5);
        be("six", x.ways(), 6);
        rowIs(NONE, 0, 11);
        x.seen(4, 5);
        be("six", x.ways(), 6);
        rowIs(0, 4, 11);
    }

    private static void waysMany() {
        start("36 (eight children, four cells)");
        shore(TWELVE);
        children("7,1-" + times(";7,1-", 7));
        x.seen(8, 2);
        x.seen(9, 2);
        x.seen(10, 2);
        x.seen(11, 2);
        be("8! by 2 2 2 2", x.ways(), 2520);
        rowIs(8, 8, 9, 9, 10, 10, 11, 11);
        x.seen(8, 1);
        x.seen(9, 1);
        x.seen(10, 1);
        x.seen(11, 1);
        be("8 7 6 5", x.ways(), 1680);
        rowIs(NONE, NONE, NONE, NONE, 8, 9, 10, 11);
        x.seen(8, 8);
        be("nine are not there", x.ways(), 0);
        rowIs();
        x.seen(9, 0);
        x.seen(10, 0);
        x.seen(11, 0);
        be("all at one", x.ways(), 1);
        rowIs(8, 8, 8, 8, 8, 8, 8, 8);
        start("36 (as often as it is asked)");
        shore("00");
        children("7,5-;7,5-;7,5-");
        x.seen(1, 5);
        for (int i = 0; i < 3; i++) {
            be("three", x.ways(), 3);
            rowIs(NONE, NONE, 1);
            be("at the cell, or not", x.was(i), 2);
            rowIs(1);
        }
        x.seen(0, 10);
        be("three", x.ways(), 3);
        rowIs(0, 0, 1);
        be("at either", x.was(0), 3);
        rowIs(0);
        be("three", x.ways(), 3);
        start("36 (skill alone)");
        children("13,5-;7,5a");
        x.spade(0);
        x.go(0, 0);
        x.go(1, 0);
        x.sheet(3, 0, 0, 0);
        x.seen(0, 10);
        be("one way", x.ways(), 1);
        rowIs(0, 0);
    }

    private static void whereOne() {
        start("37 (none such; no way: nowhere)");
        be("no children", x.was(0), NONE);
        shore(TWELVE);
        children(EIGHT);
        x.rain(1, 1, 5);
        for (int far : FAR) {
            be("no such", x.was(far), NONE);
        }
        be("behind the last", x.was(8), NONE);
        rowIs(1, 2);
        be("nothing seen", x.was(7), 0);
        rowIs(1);
        x.seen(11, 8);
        be("h at the last", x.was(7), 2048);
        rowIs(1);
        x.seen(0, 28);
        be("h at the last alone", x.was(7), 2049);
        rowIs(0);
        x.seen(0, 99);
        be("no way", x.was(7), 0);
        rowIs(0);
        x.seen(0, 0);
        x.seen(11, 36);
        be("all were there", x.was(0), 2048);
        rowIs(0);
        x.seen(11, 35);
        be("all but a", x.was(0), 0);
        rowIs(1);
        be("all but a", x.was(7), 2048);
        rowIs(0);
    }

    // ---- 38

    private static void rainNumbers() {
        start("38 (n, k 1 .. 12, p 0 .. 10; none: others)");
        x.floods(0, 7);
        for (int bad : new int[] {MIN, -1, 0, 13, 14, MAX}) {
            be("n " + bad, x.rain(bad, 1, 5), NONE);
            be("k " + bad, x.rain(1, bad, 5), NONE);
        }
        for (int bad : new int[] {MIN, -1, 11, 12, MAX}) {
            be("p " + bad, x.rain(1, 1, bad), NONE);
        }
        rowIs(1, 7);
        for (int n = 1; n <= 12; n++) {
            for (int k = 1; k <= 12; k++) {
                be("it never rains", x.rain(n, k, 0), 0);
                be("upper", row(0), 0);
                be("lower", row(1), 1);
                x.rain(n, k, 10);
                be("it always rains", row(0), n >= k ? 1 : 0);
                be("lower", row(1), 1);
            }
            if (n % 6 == 0) {
                x = new SandKeepsSea();
            }
        }
    }

    private static void rainEdges() {
        start("38 (more days than there are: 0 by 1)");
        for (int n = 1; n < 12; n++) {
            x.rain(n, n + 1, 5);
            rowIs(0, 1);
        }
        start("38 (in lowest terms)");
        x.rain(1, 1, 5);
        rowIs(1, 2);
        x.rain(1, 1, 2);
        rowIs(1, 5);
        x.rain(1, 1, 4);
        rowIs(2, 5);
        x.rain(1, 1, 7);
        rowIs(7, 10);
        x.rain(12, 12, 5);
        rowIs(1, 4096);
        x.rain(12, 12, 2);
        rowIs(1, 244140625);
        x.rain(12, 1, 5);
        rowIs(4095, 4096);
        x.rain(12, 12, 1);
        rowIs(1, 1000000000000L);
        x.rain(12, 12, 3);
        rowIs(531441, 1000000000000L);
        x.rain(12, 11, 5);
        rowIs(3, 4096);
        x.rain(12, 1, 9);
        rowIs(999999999999L, 1000000000000L);
        x.rain(12, 12, 9);
        rowIs(282429536481L, 1000000000000L);
        x.rain(2, 2, 9);
        rowIs(81, 100);
        start("38 (at least once)");
        x.rain(4, 2, 5);
        rowIs(1, 2);
        x.rain(5, 2, 5);
        rowIs(19, 32);
        x.rain(5, 3, 5);
        rowIs(1, 4);
    }

    // ---- 39

    private static void restsNumbers() {
        start("39 (v 1 .. 99, c 0 .. 9; none: others)");
        x.rain(1, 1, 5);
        for (int bad : new int[] {MIN, -1, 0, 100, 101, MAX}) {
            be("v " + bad, x.rests(bad, 1), NONE);
        }
        for (int bad : new int[] {MIN, -1, 10, 11, MAX}) {
            be("c " + bad, x.rests(1, bad), NONE);
        }
        rowIs(1, 2);
        yes("1, 0", x.rests(1, 0) >= 0);
        yes("1, 9", x.rests(1, 9) >= 0);
        yes("99, 0", x.rests(99, 0) >= 0);
        yes("99, 9", x.rests(99, 9) >= 0);
    }

    private static void restsEdges() {
        start("39 (0 .. 9 each; cut; 0 without any)");
        be("too dear: none each", x.rests(1, 1), 3);
        // Alone a beach gets 1 less 1: as much as by none, so (0, 0), (0, 1), (1, 0).
        rowIs(0, 0);
        be("dearer", x.rests(1, 2), 1);
        rowIs(0, 0);
        // Free spades: of v 1 a share is 1 by itself or nothing; who has any lets the other have nothing.
        be("1 for nothing", x.rests(1, 0), 81 + 2 * 9);
        rowIs(0, 1);
        be("99 for nothing: all", x.rests(99, 0), 1);
        rowIs(9, 9);
        start("39 (another number alone, 0 .. 9: more, not as much)");
        // Of v 2 a beach gets 1 if it has as many as the other or more.
        be("as many each, but not none", x.rests(2, 0), 9);
        rowIs(1, 1);
        // By 8 each 9, and 9 by 9 too (162 by 17, cut); by 7 each 9, but 10 by 9 (162 by 16, cut).
        be("8 each or 9 each", x.rests(18, 0), 2);
        rowIs(8, 8);
        // Beside 1: 10 less 5 by 1, 13 less 10 by 2; alone 20 less 5 by 1.
        be("1 each", x.rests(20, 5), 1);
        rowIs(1, 1);
    }

    // ---- 40

    private static void summersNumbers() {
        start("40 (n 1 .. 60; none: another n)");
        x.rain(1, 1, 5);
        for (int n : new int[] {MIN, -1, 0, 61, 62, MAX}) {
            be("summers(1, " + n + ")", x.summers(1, n), NONE);
        }
        rowIs(1, 2);
        // R is 12345 behind a seed of 0: by 65536 it is 0, a SPELL.
        be("summers(0, 1)", x.summers(0, 1), 0);
        rowIs(0, 0);
        be("summers(0, 60)", x.summers(0, 60) >= 0 ? 1 : 0, 1);
        be("questions change nothing", x.count(2) + x.count(7) + x.count(11), 0);
    }

    private static long r;

    private static int draw(int n) {
        r = (r * 1103515245L + 12345L) % 4294967296L;
        return (int) (r / 65536 % n);
    }

    /** The same by acts, undone at last by again(): how many TIDES BREAK. */
    private static int byActs(int seed, int n) {
        x.keep(2);
        r = seed & 0xffffffffL;
        int broken = 0;
        for (int i = 0; i < n; i++) {
            int what = draw(4);
            if (what == 3) {
                broken += x.tide() != 0 ? 1 : 0;
            } else if (what == 2) {
                if (x.count(1) > 0) {
                    int who = draw(x.count(1));
                    x.go(who, draw(x.count(0)));
                }
            } else {
                x.build(1);
            }
        }
        return broken;
    }

    private static void sameByActs(int seed, int n) {
        int broken = byActs(seed, n);
        long wet = Integer.bitCount(x.count(7));
        long home = Integer.bitCount(x.count(8));
        x.again(2);
        be("summers(" + seed + ", " + n + ")", x.summers(seed, n), broken);
        rowIs(wet, home);
    }

    private static void summersDrawn() {
        int[] seeds = {0, 1, -1, MIN, MAX, 65536, -65536, 12345, 1 << 30, -1000003};
        for (int seed : seeds) {
            start("40 (R as ints, by its bits without sign)");
            shore("121");
            children("7,4-;13,6a;5,9-");
            rule("9+n*3");
            sameByActs(seed, 1);
            sameByActs(seed, 2);
            sameByActs(seed, 60);
            start("40 (a draw of children, then a draw of cells)");
            shore("0|90|90|90|90");
            children("7,4-;7,9-");
            rule("4");
            sameByActs(seed, 30);
            sameByActs(seed, 60);
            start("40 (more children than cells)");
            shore("0|90");
            children("7,1-" + times(";7,4-", 7));
            rule("3");
            sameByActs(seed, 20);
            sameByActs(seed, 60);
            start("40 (without children no draws)");
            rule("n");
            sameByActs(seed, 60);
            start("40 (twelve cells, eight children; mood 0 is not sent)");
            shore(TWELVE);
            children(EIGHT);
            x.sheet(2, 8, 0, 1);
            rule("5");
            sameByActs(seed, 60);
        }
    }
}
