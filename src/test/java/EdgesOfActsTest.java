/** Boundary cases of promises 7 to 20, a method for each sentence of the document that names some. */
public final class EdgesOfActsTest extends Bench {
    public static void main(String[] args) {
        cellsAsked();
        childrenAsked();
        bucketsOfFriends();
        bucketsOfMoodAndAge();
        windSet();
        spadesSet();
        sheetEntries();
        sheetsThatWrap();
        sheetsRefused();
        sheetOfMany();
        goes();
        goesRefused();
        homes();
        spadesHad();
        treats();
        moats();
        buildNumbers();
        buildMoods();
        buildAsAllIsAhead();
        buildHigh();
        tideAboveTop();
        tideWashes();
        tideDepth();
        waterGoesOn();
        tideCounts();
        pumps();
        summerSigns();
        summerLength();
        summerRefusals();
        summerAsOne();
        undoFifteen();
        undoFullAndRefused();
        undoWhatWasDone();
        undoGivesBack();
        undoForgets();
        due.end();
    }

    // ---- 7, 8

    private static void cellsAsked() {
        start("7 (of a cell, what 0 .. 6)");
        shore("9|87");
        children(BUILDERS);
        wall(0, 0, 3);
        x.moat(0);
        x.go(0, 0);
        x.go(1, 0);
        int[] first = {9, 3, 1, 0, 8, 3, 93};
        int[] last = {7, 0, 0, 0, 0, 0, 70};
        for (int what = 0; what <= 6; what++) {
            be("cell(0, " + what + ")", cell(0, what), first[what]);
            be("cell(1, " + what + ")", cell(1, what), last[what]);
        }
        start("7 (none such, another what)");
        for (int n = 1; n <= 12; n++) {
            shore(TWELVE.substring(0, n));
            be("the last", cell(n - 1, 6), 0);
            be("behind the last", cell(n, 0), NOTHING);
        }
        for (int far : FAR) {
            be("cell(" + far + ", 0)", cell(far, 0), NOTHING);
            be("cell(" + far + ", " + far + ")", cell(far, far), NOTHING);
        }
        for (int what : new int[] {MIN, -1, 7, 8, MAX}) {
            be("cell(0, " + what + ")", cell(0, what), NOTHING);
        }
    }

    private static void childrenAsked() {
        start("8 (of a child, what 0 .. 6)");
        children("12,9-;13,8a");
        x.spade(1);
        x.go(1, 0);
        int[] first = {12, 9, NONE, 5, 0, NONE, 0};
        int[] last = {13, 8, 0, 5, 1, 0, 5};
        for (int what = 0; what <= 6; what++) {
            be("child(0, " + what + ")", child(0, what), first[what]);
            be("child(1, " + what + ")", child(1, what), last[what]);
        }
        start("8 (none such, another what)");
        be("no children", child(0, 0), NOTHING);
        children(EIGHT);
        be("the last", child(7, 1), 8);
        be("behind the last", child(8, 1), NOTHING);
        for (int far : FAR) {
            be("child(" + far + ", 0)", child(far, 0), NOTHING);
            be("child(" + far + ", " + far + ")", child(far, far), NOTHING);
        }
        for (int what : new int[] {MIN, -1, 7, 8, MAX}) {
            be("child(0, " + what + ")", child(0, what), NOTHING);
        }
    }

    private static void bucketsOfFriends() {
        start("8 (1 more if its friend, or one whose friend it is, is at the same cell or a neighbouring one)");
        shore(TWELVE);
        children("7,4-;7,6a");
        for (int a = 0; a < 12; a++) {
            x.home(0);
            x.go(0, a);
            for (int b = Math.max(0, a - 2); b <= Math.min(11, a + 2); b++) {
                x.home(1);
                x.go(1, b);
                int more = Math.abs(a - b) <= 1 ? 1 : 0;
                be("at " + a + " beside " + b, child(0, 6), 4 + more);
                be("at " + b + " beside " + a, child(1, 6), 6 + more);
            }
        }
        start("8 (a friend at home is beside nobody)");
        shore("000");
        children("7,4-;7,6a");
        x.go(0, 0);
        be("at the first cell", child(0, 6), 4);
        be("0 at home", child(1, 6), 0);
        x.home(0);
        be("both at home", child(0, 6) + child(1, 6), 0);
        start("8 (two friends beside are 1 more)");
        shore("000");
        children("7,4-;7,6a;7,8a;7,9b");
        x.go(0, 1);
        x.go(1, 0);
        x.go(2, 2);
        be("two", child(0, 6), 5);
        x.home(1);
        be("the other one", child(0, 6), 5);
        x.home(2);
        x.go(3, 1);
        be("a friend's friend is none", child(0, 6), 4);
        be("a friend's friend is none", child(3, 6), 9);
        start("8 (the last of eight is a friend)");
        children("7,4-" + times(";7,1-", 6) + ";7,6a");
        x.go(0, 0);
        x.go(7, 0);
        be("first", child(0, 6), 5);
        be("last", child(7, 6), 7);
        start("8 (friends of whom none is the first)");
        children("7,4-;7,6-;7,8b");
        for (int i = 0; i < 3; i++) {
            x.go(i, 0);
        }
        be("who has none", child(0, 6), 4);
        be("one whose friend it is", child(1, 6), 7);
        be("its friend", child(2, 6), 9);
        start("8 (one that came in a later text is a friend)");
        children("7,4-");
        children("7,6a");
        x.go(0, 0);
        x.go(1, 0);
        be("first", child(0, 6), 5);
        be("second", child(1, 6), 7);
    }

    private static void bucketsOfMoodAndAge() {
        start("8 (half, cut, if mood is below 3; half, cut, of that if age is 13)");
        x.set(1, 8);
        children("12,9-;13,9-;4,1-;13,1-;12,4a;13,4b");
        for (int i = 0; i < 6; i++) {
            x.go(i, 0);
        }
        int[] full = {10, 5, 1, 0, 5, 2};
        int[] low = {5, 2, 0, 0, 2, 1};
        for (int mood = 0; mood <= 9; mood++) {
            x.sheet(2, 6, mood, 0);
            for (int i = 0; i < 6; i++) {
                be("child " + i + " in mood " + mood, child(i, 6), mood < 3 ? low[i] : full[i]);
            }
        }
        for (int i = 0; i < 6; i++) {
            x.spade(i);
        }
        int[] fullBySpade = {12, 6, 3, 1, 7, 3};
        int[] lowBySpade = {6, 3, 1, 0, 3, 1};
        x.sheet(2, 6, 3, 0);
        for (int i = 0; i < 6; i++) {
            be("child " + i + " with a spade", child(i, 6), fullBySpade[i]);
        }
        x.sheet(2, 6, 2, 0);
        for (int i = 0; i < 6; i++) {
            be("child " + i + " with a spade in mood 2", child(i, 6), lowBySpade[i]);
        }
    }

    // ---- 9

    private static void windSet() {
        start("9 (wind 0 .. 9: what it was; refused: others)");
        int was = 0;
        for (int v = 9; v >= 0; v--) {
            be("set(0, " + v + ")", x.set(0, v), was);
            be("wind", x.count(3), v);
            was = v;
        }
        x.set(0, 6);
        for (int v : new int[] {MIN, -1, 10, 11, MAX}) {
            be("set(0, " + v + ")", x.set(0, v), NONE);
        }
        for (int what : new int[] {MIN, -1, 2, 3, MAX}) {
            be("set(" + what + ", 1)", x.set(what, 1), NONE);
        }
        be("wind stays", x.count(3), 6);
        be("spades stay", x.count(4), 2);
        be("no act", x.count(11), 0);
    }

    private static void spadesSet() {
        start("9 (spades 0 .. 8, no fewer than are had)");
        children(EIGHT);
        int was = 2;
        for (int v = 0; v <= 8; v++) {
            be("set(1, " + v + ")", x.set(1, v), was);
            be("spades", x.count(4), v);
            was = v;
        }
        for (int v : new int[] {MIN, -1, 9, 10, MAX}) {
            be("set(1, " + v + ")", x.set(1, v), NONE);
        }
        be("spades stay", x.count(4), 8);
        for (int had = 1; had <= 8; had++) {
            x.spade(had - 1);
            be("fewer than " + had, x.set(1, had - 1), NONE);
            be("spades stay", x.count(4), 8);
            be("as many as " + had, x.set(1, had), 8);
            be("eight", x.set(1, 8), had);
        }
        x.spade(3);
        be("seven are had", x.set(1, 7), 8);
        be("wind stays", x.count(3), 0);
    }

    // ---- 10

    private static void oneMood(int kind, int entry, int mood) {
        be("sheet(" + kind + ", 1, " + entry + ", 0)", x.sheet(kind, 1, entry, 0), mood);
        be("mood", child(0, 3), mood);
    }

    private static void sheetEntries() {
        start("10 (bytes, shorts: the lowest bits, with their sign; put to 0 .. 9)");
        children("7,4-");
        for (int kind = 0; kind <= 2; kind++) {
            for (int v = -2; v <= 11; v++) {
                oneMood(kind, v, Math.max(0, Math.min(9, v)));
            }
        }
        int[] byteEntries = {127, 128, 129, 255, 256, 257, 256 + 9, 256 + 10, -128, -129, -247, -255, -256, -257, MAX, MIN, MIN + 4};
        int[] byteMoods = {9, 0, 0, 0, 0, 1, 9, 9, 0, 9, 9, 1, 0, 0, 0, 0, 4};
        for (int i = 0; i < byteEntries.length; i++) {
            oneMood(0, byteEntries[i], byteMoods[i]);
        }
        int[] shortEntries = {127, 128, 256, 32767, 32768, 65535, 65536, 65537, 65536 + 9, -32768, -32769, -65535, -65536, MAX, MIN, MIN + 4};
        int[] shortMoods = {9, 9, 9, 9, 0, 0, 0, 1, 9, 0, 9, 1, 0, 0, 0, 4};
        for (int i = 0; i < shortEntries.length; i++) {
            oneMood(1, shortEntries[i], shortMoods[i]);
        }
        int[] intEntries = {127, 128, 256, 32768, 65536, -128, -255, -65535, MAX, MIN, MIN + 4};
        int[] intMoods = {9, 9, 9, 9, 9, 0, 0, 0, 9, 0, 0};
        for (int i = 0; i < intEntries.length; i++) {
            oneMood(2, intEntries[i], intMoods[i]);
        }
    }

    private static void sheetsThatWrap() {
        start("10 (entries f, f + step, .. wrap around)");
        children("7,4-;7,4-;7,4-");
        be("ints above the most", x.sheet(2, 3, MAX - 1, 1), 18);
        be("moods", moodsTold(), 990);
        be("ints below the least", x.sheet(2, 3, MIN, -1), 18);
        be("moods", moodsTold(), 99);
        be("twice round", x.sheet(2, 3, 1, MIN), 2);
        be("moods", moodsTold(), 101);
        be("bytes of ints that wrap", x.sheet(0, 3, MAX, 2), 4);
        be("moods", moodsTold(), 13);
        be("bytes that wrap", x.sheet(0, 3, 127, 1), 9);
        be("moods", moodsTold(), 900);
        be("bytes that wrap", x.sheet(0, 3, 250, 8), 9 + 2);
        be("moods", moodsTold(), 29);
        be("shorts that wrap", x.sheet(1, 3, 32767, 1), 9);
        be("moods", moodsTold(), 900);
        be("shorts that wrap", x.sheet(1, 3, -1, 32768), 9);
        be("moods", moodsTold(), 90);
        be("steps below 0", x.sheet(2, 3, 9, -4), 9 + 5 + 1);
        be("moods", moodsTold(), 951);
    }

    private static void sheetsRefused() {
        for (int kind = 0; kind <= 2; kind++) {
            start("10 (-2: n below 0, nothing changes; none: n above 8)");
            children("7,4-;7,4-");
            x.rain(1, 1, 5);
            be("kind " + kind + ", n -1", x.sheet(kind, -1, 1, 1), -2);
            be("kind " + kind + ", n min", x.sheet(kind, MIN, 1, 1), -2);
            be("kind " + kind + ", n 9", x.sheet(kind, 9, 1, 1), NONE);
            be("kind " + kind + ", n max", x.sheet(kind, MAX, 1, 1), NONE);
            be("moods", moodsTold(), 55);
            rowIs(1, 2);
            be("kind " + kind + ", n 8", x.sheet(kind, 8, 1, 1), 3);
            be("moods", moodsTold(), 12);
            be("kind " + kind + ", n 1", x.sheet(kind, 1, 7, 1), 7);
            be("those behind it have 0", moodsTold(), 70);
            be("kind " + kind + ", n 0", x.sheet(kind, 0, 7, 1), 0);
            be("all 0", moodsTold(), 0);
        }
        start("10 (-3: missing, all 0; n above 8 first)");
        children("7,4-;7,4-");
        be("n 9", x.sheet(3, 9, 1, 1), NONE);
        be("moods", moodsTold(), 55);
        be("n 8", x.sheet(3, 8, 1, 1), -3);
        be("moods", moodsTold(), 0);
        x.sheet(2, 2, 5, 0);
        be("n -1", x.sheet(3, -1, 1, 1), -3);
        be("moods", moodsTold(), 0);
        x.sheet(2, 2, 5, 0);
        be("n min", x.sheet(3, MIN, 1, 1), -3);
        be("moods", moodsTold(), 0);
        start("10 (none: another kind, these first)");
        children("7,4-");
        for (int kind : new int[] {MIN, -1, 4, 5, MAX}) {
            for (int n : new int[] {MIN, -1, 0, 1, 8, 9, MAX}) {
                be("kind " + kind + ", n " + n, x.sheet(kind, n, 1, 1), NONE);
            }
        }
        be("mood", moodsTold(), 5);
        start("10 (no children)");
        be("n 8", x.sheet(2, 8, 9, 0), 0);
        be("n -1", x.sheet(2, -1, 9, 0), -2);
        be("missing", x.sheet(3, 0, 9, 0), -3);
        be("those that come have 5", children("7,4-"), 1);
        be("mood", moodsTold(), 5);
    }

    private static void sheetOfMany() {
        start("10 (the sum of all)");
        children(EIGHT);
        be("eight of 9", x.sheet(2, 8, 9, 0), 72);
        be("eight of 1 .. 8", x.sheet(0, 8, 1, 1), 36);
        be("moods", moodsTold(), 12345678);
        be("seven", x.sheet(1, 7, 1, 1), 28);
        be("moods", moodsTold(), 12345670);
        x.go(0, 0);
        x.sheet(3, 0, 0, 0);
        be("who is at a cell stays there", child(0, 5), 0);
        be("no act", x.count(11), 1);
    }

    // ---- 11, 12

    private static void goes() {
        start("11 (0 if it was home, else the cell where it was and 1)");
        shore(TWELVE);
        children(EIGHT);
        be("home to the last cell", x.go(7, 11), 0);
        be("last to first", x.go(7, 0), 12);
        be("first to last", x.go(7, 11), 1);
        for (int c = 10; c >= 0; c--) {
            be("from " + (c + 1), x.go(7, c), c + 2);
            be("there", cell(c, 5), 128);
            be("no more there", cell(c + 1, 5), 0);
        }
        for (int i = 0; i < 7; i++) {
            x.go(i, 0);
        }
        be("all at one cell", cell(0, 5), 255);
        be("nobody home", x.count(8), 0);
        start("11 (mood 1 is enough)");
        children("7,4-");
        x.sheet(2, 1, 1, 0);
        be("mood 1", x.go(0, 0), 0);
    }

    private static void goesRefused() {
        start("11 (-2: mood 0; -3: there already; none such first)");
        shore("000");
        children("7,4-;7,4-");
        x.go(0, 2);
        be("there already", x.go(0, 2), -3);
        x.sheet(2, 2, 0, 5);
        be("mood 0, elsewhere", x.go(0, 1), -2);
        be("mood 0, there already", x.go(0, 2), -2);
        be("mood 0, no such cell", x.go(0, 3), NONE);
        for (int far : FAR) {
            be("no such child", x.go(far, 0), NONE);
            be("no such cell", x.go(1, far), NONE);
            be("neither", x.go(far, far), NONE);
        }
        be("behind the last child", x.go(2, 0), NONE);
        be("behind the last cell", x.go(1, 3), NONE);
        be("it is there", child(0, 5), 2);
        be("it is home", child(1, 5), NONE);
        be("one act", x.count(11), 1);
        start("11 (no children)");
        be("none", x.go(0, 0), NONE);
    }

    private static void homes() {
        start("12 (where it was; -2: it is home; none such)");
        shore(TWELVE);
        children(EIGHT);
        be("home already", x.home(0), -2);
        x.go(0, 0);
        x.go(7, 11);
        be("from the first cell", x.home(0), 0);
        be("from the last cell", x.home(7), 11);
        be("home already", x.home(7), -2);
        be("all home", x.count(8), 255);
        be("behind the last", x.home(8), NONE);
        for (int far : FAR) {
            be("no such", x.home(far), NONE);
        }
        be("acts", x.count(11), 4);
        x.sheet(2, 8, 5, 0);
        x.go(3, 4);
        x.sheet(3, 0, 0, 0);
        be("in mood 0 too", x.home(3), 4);
    }

    // ---- 13, 14, 15

    private static void spadesHad() {
        for (int limit = 0; limit <= 8; limit++) {
            start("13 (-2: all are had)");
            children(EIGHT);
            x.set(1, limit);
            for (int i = 0; i < 8; i++) {
                be("child " + i + " of " + limit, x.spade(i), i < limit ? i + 1 : -2);
            }
            be("who has one", x.count(5), (1 << limit) - 1);
            be("acts", x.count(11), limit);
            if (limit > 0 && limit < 8) {
                be("gives back though all are had", x.spade(0), limit - 1);
                be("another gets it", x.spade(7), limit);
                be("who has one", x.count(5), (1 << limit) - 2 + 128);
            }
            be("behind the last", x.spade(8), NONE);
        }
        start("13 (none such)");
        be("no children", x.spade(0), NONE);
        children("7,4-");
        x.set(1, 0);
        for (int far : FAR) {
            be("no such, ahead of -2", x.spade(far), NONE);
        }
        be("acts", x.count(11), 0);
    }

    private static void treats() {
        start("14 (3 more, 9 at most: mood then)");
        children("7,4-;7,4-");
        for (int mood = 0; mood <= 9; mood++) {
            x.sheet(2, 2, mood, 0);
            be("from " + mood, x.treat(1), Math.min(9, mood + 3));
            be("mood", child(1, 3), Math.min(9, mood + 3));
            be("the other one's", child(0, 3), mood);
        }
        for (int far : FAR) {
            be("no such", x.treat(far), NONE);
        }
        be("behind the last", x.treat(2), NONE);
        be("acts", x.count(11), 10);
        start("14 (no children)");
        be("none", x.treat(0), NONE);
    }

    private static void moats() {
        start("15 (dug, or filled: how many there are then)");
        be("one cell", x.moat(0), 1);
        be("behind the last", x.moat(1), NONE);
        shore(TWELVE);
        for (int c = 0; c < 12; c++) {
            be("dug at " + c, x.moat(c), c + 1);
        }
        be("all", x.count(6), 4095);
        for (int far : FAR) {
            be("no such", x.moat(far), NONE);
        }
        be("all", x.count(6), 4095);
        for (int c = 11; c >= 0; c--) {
            be("filled at " + c, x.moat(c), c);
            be("moat", cell(c, 2), 0);
        }
        be("none", x.count(6), 0);
    }

    // ---- 16

    private static void buildNumbers() {
        start("16 (n 0 .. 30, refused: another n)");
        children("7,4-");
        x.go(0, 0);
        x.rain(1, 1, 5);
        for (int n : new int[] {MIN, -1, 31, 32, MAX}) {
            be("build(" + n + ")", x.build(n), NONE);
        }
        rowIs(1, 2);
        be("acts", x.count(11), 1);
        be("wall", cell(0, 1), 0);
        be("build(0)", x.build(0), 0);
        rowIs(0);
        be("acts", x.count(11), 2);
        be("mood", moodsTold(), 5);
        be("build(1)", x.build(1), 4);
        rowIs(0);
        be("build(30)", x.build(30), 4 + 4 + 2 + 2);
        rowIs(1);
        be("nobody there", x.build(30), 0);
        rowIs(0);
        start("16 (no children)");
        be("build(30)", x.build(30), 0);
        rowIs(0);
    }

    private static void buildMoods() {
        start("16 (mood 1 less, 0 at least; those with mood 0 then go home)");
        shore("00");
        children("7,4-;7,4-;7,4-;7,4-");
        for (int i = 0; i < 3; i++) {
            x.go(i, 0);
        }
        x.sheet(2, 4, 0, 1);
        be("moods 0, 1, 2", x.build(1), 2 + 2 + 2);
        rowIs(3);
        be("who is home keeps its mood", moodsTold(), 13);
        be("home", x.count(8), 11);
        be("one more", x.build(1), 2);
        rowIs(4);
        be("moods", moodsTold(), 3);
        start("16 (mood 3 builds all, mood 2 half)");
        children("7,9-");
        x.go(0, 0);
        x.sheet(2, 1, 3, 0);
        be("mood 3", x.build(1), 9);
        be("mood 2", x.build(1), 4);
        be("mood 1", x.build(1), 4);
        rowIs(1);
        be("gone", x.build(1), 0);
        start("16 (from mood 9 nine spells)");
        children("7,2-");
        x.go(0, 0);
        x.sheet(2, 1, 9, 0);
        be("eight", x.build(8), 7 * 2 + 1);
        rowIs(0);
        be("the ninth", x.build(1), 1);
        rowIs(1);
    }

    private static void buildAsAllIsAhead() {
        start("16 (as all is ahead)");
        children("7,4-;7,6a");
        x.go(0, 0);
        x.go(1, 0);
        x.sheet(2, 2, 1, 4);
        be("the friend goes home behind this spell", x.build(1), 2 + 7);
        rowIs(1);
        be("then it is not beside", x.build(1), 6);
        start("16 (as all is ahead)");
        children("7,6-;7,4a");
        x.go(0, 0);
        x.go(1, 0);
        x.sheet(2, 2, 5, -4);
        be("the later one goes home behind this spell", x.build(1), 7 + 2);
        rowIs(2);
        be("then it is not beside", x.build(1), 6);
    }

    private static void buildHigh() {
        start("16 (999 at most: what is above is lost)");
        children(BUILDERS + ";4,9-");
        wall(0, 0, 990);
        x.sheet(2, 3, 9, 0);
        x.go(1, 0);
        be("to 999", x.work(1), 9);
        be("to 999", x.build(1), 9);
        be("wall", cell(0, 1), 999);
        be("all is lost", x.build(1), 0);
        be("wall", cell(0, 1), 999);
        x.undo();
        x.undo();
        be("wall", cell(0, 1), 990);
        x.go(0, 0);
        be("one is lost", x.build(1), 9);
        be("wall", cell(0, 1), 999);
        x.undo();
        x.go(2, 0);
        be("ten are lost", x.work(1), 9);
        rowIs(9);
        be("ten are lost", x.build(1), 9);
        be("wall", cell(0, 1), 999);
        be("walls together", x.count(9), 999);
        start("16 (on a base of 9)");
        shore("9");
        children(BUILDERS);
        wall(0, 0, 999);
        be("top", cell(0, 6), 1089);
        be("level 999 washes it", levelBy("999"), 999);
        be("holds", x.tide(), 0);
        be("wall", cell(0, 1), 999 - 227);
        start("16 (to 998)");
        children(BUILDERS);
        wall(0, 0, 998);
        x.go(0, 0);
        be("to 999", x.build(1), 1);
        be("no more", x.build(1), 0);
    }

    // ---- 17

    private static void tideAboveTop() {
        start("17 (if level is above top, it breaks)");
        shore("22");
        children(BUILDERS);
        wall(0, 0, 7);
        x.moat(0);
        x.moat(1);
        rule("20");
        be("equal to the lowest top", x.tide(), 0);
        rowIs(20, 0);
        be("moats", x.count(6), 3);
        rule("27");
        be("equal to the highest top", x.tide(), 2);
        rowIs(27, 7 + 6);
        be("the moat of the one that broke is gone", x.count(6), 1);
        be("7 by 8 is 0", cell(0, 1), 7);
        rule("28");
        be("above the highest", x.tide(), 3);
        rowIs(28, 15 - 7 + 14 - 6 + 1 - 1);
        be("moats", x.count(6), 0);
        be("halved, cut", cell(0, 1), 3);
        be("level less top, on what was there, then from beside", cell(0, 3), 14);
        be("on what was there", cell(1, 3), 15);
        start("17 (twelve cells)");
        shore("012345678900");
        rule("45");
        be("breaks", x.tide(), 0x1f | 0xc00);
        be("tide", x.count(2), 1);
    }

    private static void tideWashes() {
        start("17 (wash: level less 10 times base, by 4, cut)");
        shore("1");
        children(BUILDERS);
        wall(0, 0, 40);
        int[] levels = {0, 9, 10, 13, 14, 17, 18, 22};
        int[] washes = {0, 0, 0, 0, 1, 1, 2, 3};
        int wall = 40;
        for (int i = 0; i < levels.length; i++) {
            rule("" + levels[i]);
            be("holds", x.tide(), 0);
            wall -= washes[i];
            be("washed by level " + levels[i], cell(0, 1), wall);
        }
        start("17 (wash with a moat: by 8, cut)");
        shore("1");
        children(BUILDERS);
        wall(0, 0, 40);
        x.moat(0);
        int[] moatLevels = {0, 10, 17, 18, 25, 26};
        int[] moatWashes = {0, 0, 0, 1, 1, 2};
        wall = 40;
        for (int i = 0; i < moatLevels.length; i++) {
            rule("" + moatLevels[i]);
            be("holds", x.tide(), 0);
            wall -= moatWashes[i];
            be("washed by level " + moatLevels[i], cell(0, 1), wall);
        }
        be("the moat stays", x.count(6), 1);
        start("17 (no wall is washed below 0)");
        shore("9");
        rule("90");
        be("holds", x.tide(), 0);
        be("wall", cell(0, 1), 0);
        rule("0");
        be("holds", x.tide(), 0);
        be("wall", cell(0, 1), 0);
        rule("89");
        be("below its base", x.tide(), 0);
        be("wall", cell(0, 1), 0);
    }

    private static void tideDepth() {
        start("17 (depth 999 at most)");
        rule("999");
        be("breaks", x.tide(), 1);
        rowIs(999, 999);
        be("depth", cell(0, 3), 999);
        be("breaks again", x.tide(), 1);
        rowIs(999, 0);
        be("depth", cell(0, 3), 999);
        x.pump(1);
        rule("1");
        be("998 and 1", x.tide(), 1);
        rowIs(1, 1);
        x.pump(1);
        rule("2");
        be("998 and 2", x.tide(), 1);
        rowIs(2, 1);
        be("depth", cell(0, 3), 999);
        start("17 (wall is halved, cut)");
        children(BUILDERS);
        wall(0, 0, 3);
        rule("4");
        be("breaks", x.tide(), 1);
        be("3 to 1", cell(0, 1), 1);
        be("breaks", x.tide(), 1);
        be("1 to 0", cell(0, 1), 0);
        be("breaks", x.tide(), 1);
        be("0 stays", cell(0, 1), 0);
        be("depth", cell(0, 3), 1 + 3 + 4);
    }

    private static void waterGoesOn() {
        start("17 (depth less the dyke between and 1, if that is more than its own)");
        shore("9|99|09|30|00|39|09|99");
        rule("30");
        be("the lowest two break", x.tide(), 0x18);
        long[] depth = {15, 25, 26, 30, 30, 26, 25, 15};
        for (int c = 0; c < 8; c++) {
            be("depth " + c, cell(c, 3), depth[c]);
        }
        rowIs(30, 192);
        start("17 (not if it is as much or less)");
        shore("80");
        rule("1");
        be("1 less 1 is none", x.tide(), 2);
        rowIs(1, 1);
        be("dry", cell(0, 3), 0);
        be("one more", x.tide(), 2);
        rowIs(1, 2);
        be("2 less 1", cell(0, 3), 1);
        x.pump(1);
        be("own water stays, 1 and 1 less 1", x.tide(), 2);
        be("2 less 1", cell(0, 3), 1);
        start("17 (over a dyke of 9)");
        shore("8|90");
        rule("10");
        be("10 less 9 less 1 is none", x.tide(), 2);
        be("dry", x.count(7), 2);
        rule("1");
        be("11", x.tide(), 2);
        be("1", cell(0, 3), 1);
        start("17 (through all twelve, both ways)");
        shore("099999999999");
        rule("12");
        be("breaks", x.tide(), 1);
        rowIs(12, 78);
        be("the last", cell(11, 3), 1);
        shore("999999999990");
        be("breaks", x.tide(), 2048);
        rowIs(12, 78);
        be("the first", cell(0, 3), 1);
        rule("0");
        be("a tide that does not break lets water go on no farther", x.tide(), 0);
        rowIs(0, 0);
    }

    private static void tideCounts() {
        start("17 (tide is 1 more, its number by 8)");
        rule("n");
        for (int t = 0; t < 20; t++) {
            be("tide", x.count(2), t);
            x.tide();
            be("level", row(0), t % 8);
        }
        start("17 (level by the moats ahead of it)");
        shore("00");
        x.moat(0);
        x.moat(1);
        rule("m*5");
        be("both break", x.tide(), 3);
        rowIs(10, 20);
        be("none left", x.tide(), 0);
        rowIs(0, 0);
    }

    // ---- 18

    private static void pumps() {
        start("18 (n 1 .. 99 less, 0 at least; refused: another n)");
        shore("0|90|90");
        rule("150");
        x.tide();
        x.rain(1, 1, 5);
        for (int n : new int[] {MIN, -1, 0, 100, 101, MAX}) {
            be("pump(" + n + ")", x.pump(n), NONE);
        }
        be("acts", x.count(11), 1);
        be("depth", cell(0, 3), 150);
        be("pump(99)", x.pump(99), 3);
        be("depth", cell(0, 3), 51);
        be("pump(1)", x.pump(1), 3);
        be("depth", cell(0, 3), 50);
        be("one left", x.pump(49), 3);
        be("depth", cell(2, 3), 1);
        be("none left", x.pump(1), 0);
        be("depth", cell(2, 3), 0);
        be("dry", x.pump(1), 0);
        be("depth", cell(0, 3), 0);
        rowIs(1, 2);
        x.undo();
        x.undo();
        be("more than there is", x.pump(2), 0);
        be("depth", cell(0, 3), 0);
        start("18 (how many fields have water yet)");
        shore("0|90|98");
        rule("10");
        x.tide();
        be("fields", x.count(7), 3);
        rule("5");
        x.tide();
        // 15, 15, and 15 less 10.
        be("two", x.pump(5), 2);
        be("which", x.count(7), 3);
        start("18 (all twelve fields)");
        shore(TWELVE);
        rule("9");
        x.tide();
        be("one left", x.pump(8), 12);
        be("none left", x.pump(99), 0);
        be("dry", x.count(7), 0);
    }

    // ---- 19

    /** Twelve CELLS, eight CHILDREN at the first: how a text of one act is answered. */
    private static void oneAct(String t, int want) {
        x = new SandKeepsSea();
        shore(TWELVE);
        children(EIGHT);
        for (int i = 0; i < 8; i++) {
            x.go(i, 0);
        }
        be("summer " + t + ", its last sign is " + (int) t.charAt(t.length() - 1), summer(t), want);
        be("tides", x.count(2), t.equals("w") ? 1 : 0);
    }

    private static void summerSigns() {
        start("19 (what signs can stand)");
        for (char c = 0; c < 256; c++) {
            boolean ofChild = c >= 'a' && c <= 'h';
            boolean ofCell = c >= 'a' && c <= 'l';
            boolean digit = c >= '0' && c <= '9';
            oneAct("" + c, c == 'w' ? 1 : "ghstmb".indexOf(c) >= 0 ? -2 : -1);
            oneAct("g" + c + "b", ofChild ? 1 : -2);
            // They are at the first CELL already.
            oneAct("gh" + c, c == 'a' ? 0 : ofCell ? 1 : -3);
            oneAct("h" + c, ofChild ? 1 : -2);
            oneAct("s" + c, ofChild ? 1 : -2);
            oneAct("t" + c, ofChild ? 1 : -2);
            oneAct("m" + c, ofCell ? 1 : -2);
            oneAct("b" + c, digit ? 1 : -2);
        }
        start("19 (each letter and digit tells what it is)");
        shore(TWELVE);
        children(EIGHT);
        x.set(1, 8);
        be("to their cells", summer("gaagbbgccgddgeegff"), 6);
        be("to their cells", summer("gggghl"), 2);
        for (int i = 0; i < 7; i++) {
            be("place", child(i, 5), i);
        }
        be("the last of both", child(7, 5), 11);
        be("spades and treats", summer("sashth"), 3);
        be("who has one", x.count(5), 129);
        be("moods", moodsTold(), 55555558);
        be("moats", summer("maml"), 2);
        be("where", x.count(6), 2049);
        be("home", summer("hahh"), 2);
        be("who", x.count(8), 129);
        be("no spell", summer("b0"), 1);
        be("walls", x.count(9), 0);
        be("two spells", summer("b2"), 1);
        be("walls", x.count(9), 2 * (2 + 3 + 4 + 5 + 6 + 7));
        be("nine spells", summer("b9"), 1);
        be("all are home", x.count(8), 255);
    }

    private static void summerLength() {
        start("19 (60, if it has more and the first 60 could go on or end)");
        children("7,4-");
        be("61 signs, the first 60 could end", summer(times("w", 61)), -61);
        be("61 signs, the first 60 could go on", summer(times("w", 59) + "ta"), -61);
        be("62 signs, the first 60 could go on", summer(times("w", 58) + "gaaw"), -61);
        be("62 signs, the first 60 could go on", summer(times("w", 59) + "gaa"), -61);
        be("what can't stand at 60", summer(times("w", 60) + "x"), -61);
        be("80 signs", summer(times("w", 80)), -61);
        be("60 signs that end too early", summer(times("w", 59) + "b"), -61);
        be("59 signs that end too early", summer(times("w", 58) + "b"), -60);
        be("a fault at 59 of 61", summer(times("w", 59) + "xw"), -60);
        be("a fault at 58 of 80", summer(times("w", 58) + "x" + times("w", 21)), -59);
        be("nothing is done", x.count(2), 0);
        be("nothing can be undone", x.count(11), 0);
        be("60 signs", summer(times("w", 60)), 60);
        be("tide", x.count(2), 60);
        be("60 signs of treats", summer(times("ta", 30)), 30);
        be("60 signs of ways", summer(times("gaaha", 12)), 24);
        be("b9 and b0", summer("b9b0"), 2);
        start("19 (its end, if it ends too early)");
        String[] open = {"g", "ga", "h", "s", "t", "m", "b", "wg", "wga", "hah"};
        for (String t : open) {
            be("summer " + t, summer(t), -1 - t.length());
        }
        be("nothing is done", x.count(2), 0);
    }

    private static void refusedAct(String t, int done) {
        start("19 (till one is refused)");
        shore("90");
        children("7,4-;7,4-;7,4-");
        x.sheet(2, 3, 5, -5);
        x.go(0, 1);
        x.spade(0);
        x.spade(1);
        rule("5");
        be("summer " + t, summer(t), done);
        boolean all = done == 3;
        rowIs(all ? 0 : 1, done > 0 ? 2 : 0);
        be("tides", x.count(2), all ? 2 : done);
        be("acts", x.count(11), done > 0 ? 4 : 3);
    }

    private static void summerRefusals() {
        String[] refused = {"gba", "gdb", "gah", "gab", "hc", "hd", "sc", "sd", "td", "mc", "ml"};
        for (String act : refused) {
            refusedAct(act + "ww", 0);
            refusedAct("w" + act + "w", 1);
            refusedAct("w" + act, 1);
            refusedAct("ww" + act, 2);
        }
        String[] done = {"gaa", "ha", "sa", "ta", "ma", "b0", "b1"};
        for (String act : done) {
            refusedAct("w" + act + "w", 3);
        }
        start("19 (the signs are read ahead of all: nothing is done)");
        children("7,4-");
        x.rain(1, 1, 5);
        be("a fault behind acts", summer("wwgaax"), -6);
        be("a fault behind one that would be refused", summer("hax"), -3);
        be("tides", x.count(2), 0);
        be("home", x.count(8), 1);
        be("acts", x.count(11), 0);
        rowIs(1, 2);
    }

    private static void summerAsOne() {
        start("19, 20 (as one, if one act was done)");
        shore("00");
        children("7,4-");
        be("nothing", summer(""), 0);
        be("acts", x.count(11), 0);
        be("none done", summer("ha"), 0);
        be("acts", x.count(11), 0);
        be("one done", summer("gaa"), 1);
        be("acts", x.count(11), 1);
        be("five done, one refused", summer("gabb1satawgab"), 5);
        rowIs(1, 2);
        be("acts", x.count(11), 2);
        be("undo", x.undo(), 1);
        be("place", child(0, 5), 0);
        be("wall", x.count(9), 0);
        be("spade", x.count(5), 0);
        be("mood", moodsTold(), 5);
        be("tide", x.count(2), 0);
        be("undo", x.undo(), 0);
        be("home", x.count(8), 1);
        be("undo", x.undo(), NONE);
        start("19 (its row, not that of its acts)");
        children("7,4-");
        be("a tide last", summer("gaab1w"), 3);
        rowIs(0, 1);
        be("build last", summer("b2"), 1);
        rowIs(0, 1);
    }

    // ---- 20

    private static void undoFifteen() {
        for (int acts = 0; acts <= 40; acts++) {
            start("20 (of 15 that are kept, the latest ones)");
            for (int i = 0; i < acts; i++) {
                x.tide();
            }
            int can = Math.min(15, acts);
            be("can be undone of " + acts, x.count(11), can);
            for (int left = can - 1; left >= 0; left--) {
                be("undo", x.undo(), left);
                be("tide", x.count(2), acts - can + left);
            }
            be("none", x.undo(), NONE);
            be("tide stays", x.count(2), acts - can);
            x.tide();
            be("one again", x.undo(), 0);
        }
        start("20 (undone ones make room)");
        for (int round = 0; round < 8; round++) {
            for (int i = 0; i < 7; i++) {
                x.tide();
            }
            for (int i = 0; i < 4; i++) {
                x.undo();
            }
            be("can be undone", x.count(11), round < 3 ? 3 * (round + 1) : 11);
            be("tide", x.count(2), 3 * (round + 1));
        }
    }

    /** Each act is refused when 15 are kept: the oldest stays too. */
    private static void undoFullAndRefused() {
        start("20 (a refused act forgets none of 15)");
        children("7,4-");
        for (int i = 0; i < 17; i++) {
            x.tide();
        }
        x.go(0, 1);
        x.home(0);
        x.spade(1);
        x.treat(1);
        x.moat(1);
        x.build(31);
        x.pump(0);
        summer("x");
        summer("ha");
        be("15", x.count(11), 15);
        for (int left = 14; left >= 0; left--) {
            be("undo", x.undo(), left);
            be("tide", x.count(2), 2 + left);
        }
        be("none", x.undo(), NONE);
        be("tide", x.count(2), 2);
    }

    private static void undoWhatWasDone() {
        start("20 (such as were done)");
        shore("00");
        children("7,4-");
        x.set(1, 0);
        x.go(0, 2);
        x.go(1, 0);
        x.home(0);
        x.home(1);
        x.spade(0);
        x.spade(1);
        x.treat(1);
        x.moat(2);
        x.build(31);
        x.pump(0);
        summer("x");
        summer("ha");
        be("refused ones are not", x.count(11), 0);
        be("undo", x.undo(), NONE);
        x.build(0);
        be("build(0) is", x.count(11), 1);
        x.pump(1);
        be("pump() of nothing is", x.count(11), 2);
        rule("0");
        be("holds", x.tide(), 0);
        be("tide() that does not break is", x.count(11), 3);
        be("undo", x.undo(), 2);
        be("tide", x.count(2), 0);
        x.treat(0);
        x.treat(0);
        x.treat(0);
        be("treat() of mood 9 is", x.count(11), 5);
        be("undo", x.undo(), 4);
        be("mood", moodsTold(), 9);
        be("undo", x.undo(), 3);
        be("mood", moodsTold(), 8);
        x.sheet(2, 1, 1, 0);
        x.set(0, 1);
        x.seen(0, 1);
        x.forget();
        x.keep(0);
        x.level(0);
        rule("5");
        be("others are not", x.count(11), 3);
    }

    private static void undoGivesBack() {
        start("20 (walls, moats, depths, moods, spades, where children are, tide are as ahead of it)");
        shore("00");
        children("7,4-;7,6-");
        x.go(0, 1);
        x.sheet(2, 2, 3, 4);
        x.spade(1);
        x.moat(0);
        rule("3");
        x.tide();
        x.set(0, 2);
        // Ahead of summer(): a at 1, moods 3 7, b with a spade, no moat, depths 3 3, tide 1.
        be("all at once", summer("gbab1sbsamamatbw"), 8);
        x.sheet(3, 0, 0, 0);
        x.seen(1, 6);
        be("undo", x.undo(), 4);
        be("walls", cell(0, 1) * 100 + cell(1, 1), 0);
        be("moats", x.count(6), 0);
        be("depths", cell(0, 3) * 100 + cell(1, 3), 303);
        be("moods, told by a sheet since", moodsTold(), 37);
        be("spades", x.count(5), 2);
        be("where children are", child(0, 5) * 10 + child(1, 5), 9);
        be("tide", x.count(2), 1);
        be("wind is not given back", x.count(3), 2);
        be("the rule is not given back", x.level(0), 3);
        be("seen is not given back", x.count(10), 2);
        start("20 (all twelve cells, all eight children)");
        shore(TWELVE);
        children(EIGHT);
        x.set(1, 8);
        for (int i = 0; i < 8; i++) {
            x.go(i, 11 - i);
        }
        rule("20");
        be("all at once", summer("b9" + "masasbscsdsesfsgsh" + "w"), 11);
        be("all broke", x.count(7), 4095);
        be("undo", x.undo(), 8);
        for (int c = 0; c < 12; c++) {
            be("wall and depth", cell(c, 1) + cell(c, 3), 0);
            be("who is there", cell(c, 5), c > 3 ? 1 << 11 - c : 0);
        }
        be("moods", moodsTold(), 55555555);
        be("spades", x.count(5), 0);
        be("moats", x.count(6), 0);
        start("20 (spades had by undo may be more than there are: all are had)");
        children("7,4-;7,6-");
        x.spade(0);
        x.spade(1);
        x.spade(0);
        x.spade(1);
        x.set(1, 0);
        x.undo();
        x.undo();
        be("two are had", x.count(5), 3);
        be("of none", x.count(4), 0);
        be("gives back", x.spade(0), 1);
        be("all are had", x.spade(0), -2);
        be("set to as many as are had", x.set(1, 1), 0);
    }

    private static void undoForgets() {
        start("20 (shore(), children(), again() forget them, if they are not refused)");
        x.moat(0);
        shore("x");
        be("shore() refused", x.count(11), 1);
        children("x");
        be("children() refused", x.count(11), 1);
        children("");
        be("an empty children()", x.count(11), 1);
        x.again(0);
        x.again(3);
        x.again(-1);
        be("again() refused", x.count(11), 1);
        x.keep(0);
        be("keep()", x.count(11), 1);
        yes("again()", x.again(0));
        be("forgotten by again()", x.undo(), NONE);
        x.moat(0);
        children("7,4-");
        be("forgotten by children()", x.undo(), NONE);
        x.moat(0);
        shore("0");
        be("forgotten by shore()", x.undo(), NONE);
    }
}
