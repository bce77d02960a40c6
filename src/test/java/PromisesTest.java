/** For each promise of the document: ordinary inputs, the edges that it names, and wrong inputs. */
public final class PromisesTest extends Bench {
    public static void main(String[] args) {
        newObject();
        texts();
        shores();
        childrenTold();
        rules();
        asked();
        settings();
        sheets();
        comeAndGo();
        spadesTreatsMoats();
        building();
        tidesCome();
        summersTold();
        undone();
        toCome();
        floodsAndDykes();
        crews();
        posts();
        moatsAndSpades();
        moods();
        laws();
        whoBuilt();
        rain();
        rests();
        summersDrawn();
        keptAndCounted();
        refusedChangeNothing();
        due.end();
    }

    // ---- the shore, children

    private static void newObject() {
        start("1");
        int[] want = {1, 0, 0, 0, 2, 0, 0, 0, 0, 0, 0, 0, 0, 0, -100};
        for (int i = 0; i < want.length; i++) {
            be("count(" + i + ")", x.count(i), want[i]);
        }
        for (int what = 0; what <= 6; what++) {
            be("cell(0, " + what + ")", cell(0, what), 0);
        }
        be("cell(1, 0)", cell(1, 0), NOTHING);
        be("child(0, 0)", child(0, 0), NOTHING);
        be("row(0)", row(0), NOTHING);
        be("level(0)", x.level(0), 30);
    }

    private static void texts() {
        start("2");
        be("sign", x.sign(0x30313233), 4);
        be("sign", x.sign(-1), 8);
        yes("end", x.end(4));
        be("the highest byte comes first", x.shore(), 4);
        be("cell(0, 0)", cell(0, 0), 0);
        be("cell(3, 0)", cell(3, 0), 3);
        for (int i = 1; i <= 20; i++) {
            be("sign " + i, x.sign(0x31313131), 4 * i);
        }
        be("sign 21", x.sign(0), NONE);
        be("count(13)", x.count(13), 80);
        start("3");
        no("end(1) of nothing", x.end(1));
        yes("end(0)", x.end(0));
        x.sign(0x31323334);
        no("end(5)", x.end(5));
        no("end(-1)", x.end(-1));
        no("end(min)", x.end(Integer.MIN_VALUE));
        be("count(13)", x.count(13), 4);
        yes("end(4)", x.end(4));
        be("count(13)", x.count(13), 4);
        yes("end(2)", x.end(2));
        be("shore of the first two", x.shore(), 2);
        be("cell(1, 0)", cell(1, 0), 2);
        x.end(0);
        for (int i = 0; i < 20; i++) {
            x.sign(0);
        }
        yes("end(77)", x.end(77));
        be("sign that would make 81", x.sign(0), NONE);
        be("count(13)", x.count(13), 77);
        yes("end(76)", x.end(76));
        be("sign that makes 80", x.sign(0), 80);
    }

    private static void shores() {
        start("4");
        be("one cell", shore("7"), 1);
        be("base", cell(0, 0), 7);
        be("three cells", shore("3|25|04"), 3);
        be("dyke", cell(0, 4), 2);
        be("dyke", cell(1, 4), 0);
        be("no dyke behind the last", cell(2, 4), 0);
        be("bases", cell(0, 0) * 100 + cell(1, 0) * 10 + cell(2, 0), 354);
        be("twelve", shore("012345678901"), 12);
        be("twelve with dykes, 34 signs", shore(times("1|9", 11) + "2"), 12);
        be("dyke 10", cell(10, 4), 9);
        be("dyke 11", cell(11, 4), 0);
        be("a thirteenth", shore("0123456789012"), -13);
        be("a thirteenth behind dykes", shore(times("1|9", 11) + "23"), -35);
        be("| behind the twelfth", shore("012345678901|1"), -13);
        be("another sign behind the twelfth", shore("012345678901x"), -13);
        be("the shore stayed", x.count(0), 12);
        be("its base stayed", cell(11, 0), 2);
        be("empty", shore(""), -1);
        be("| first", shore("|1"), -1);
        be("ends behind |", shore("1|"), -3);
        be("ends behind a dyke", shore("1|1"), -4);
        be("| behind |", shore("1||1"), -3);
        be("| behind a dyke", shore("1|1|1"), -4);
        be("a sign of 0", shore("1\u0000"), -2);
        be("a sign of 255", shore("12\u00ff"), -3);
        be("a comma", shore("1,2"), -2);
        shoreStartsAnew();
    }

    private static void shoreStartsAnew() {
        start("4");
        shore("00");
        children("7,4-");
        x.go(0, 1);
        x.spade(0);
        x.treat(0);
        x.build(1);
        x.moat(0);
        x.keep(0);
        x.seen(0, 3);
        x.tide();
        be("refused", shore("0x"), -2);
        be("walls stayed", x.count(9), 3);
        be("acts stayed", x.count(11), 6);
        be("seen stayed", x.count(10), 1);
        be("told anew", shore("00"), 2);
        be("tide", x.count(2), 0);
        be("moats", x.count(6), 0);
        be("water", x.count(7), 0);
        be("home", x.count(8), 1);
        be("walls", x.count(9), 0);
        be("seen", x.count(10), 0);
        be("undo", x.undo(), NONE);
        no("kept", x.again(0));
        be("the spade is had yet", x.count(5), 1);
        be("mood stays", child(0, 3), 7);
        be("children stay", x.count(1), 1);
    }

    private static void childrenTold() {
        start("5");
        be("empty", children(""), 0);
        be("two", children("4,1-;13,9a"), 2);
        be("one more", children("7,5b"), 1);
        be("age", child(0, 0), 4);
        be("age", child(1, 0), 13);
        be("skill", child(1, 1), 9);
        be("friend", child(0, 2), NONE);
        be("friend", child(1, 2), 0);
        be("friend of an older one", child(2, 2), 1);
        be("mood", child(2, 3), 5);
        be("no spade", child(2, 4), 0);
        be("home", child(2, 5), NONE);
        be("its own letter", children("7,5d"), -4);
        be("a later letter", children("7,5-;7,5f"), -9);
        be("the letter of one told in the same text", children("7,5-;7,5d"), 2);
        be("its friend", child(4, 2), 3);
        start("5");
        be("first has no friend", children("4,1a"), -4);
        be("age 3", children("3,1-"), -1);
        be("age 14", children("14,1-"), -2);
        be("age 99", children("7,4-;99,1-"), -7);
        be("age 0", children("0,1-"), -1);
        be("a third digit", children("123,1-"), -3);
        be("skill 0", children("4,0-"), -3);
        be("skill of two digits", children("4,11-"), -4);
        be("ends behind age", children("4"), -2);
        be("ends behind comma", children("4,"), -3);
        be("ends behind skill", children("4,1"), -4);
        be("ends behind ;", children("4,1-;"), -6);
        be("begins with ;", children(";4,1-"), -1);
        be("no comma", children("4.1-"), -2);
        be("a capital letter", children("4,1-;5,1A"), -9);
        be("more behind a line", children("4,1-,"), -5);
        be("nobody came", x.count(1), 0);
        be("age 04", children("04,1-"), 1);
        be("it is 4", child(0, 0), 4);
        manyChildren();
    }

    private static void manyChildren() {
        start("5");
        String eight = "10,1-" + times(";11,2a", 7);
        be("47 signs", eight.length(), 47);
        be("48 signs", children(eight + "x"), -48);
        be("48 signs with ;", children(eight + ";"), -48);
        be("more", children(eight + ";10,1-"), -48);
        be("a fault ahead of sign 47", children(eight.substring(0, 46) + "xx"), -47);
        be("nobody came", x.count(1), 0);
        be("eight in 47 signs", children(eight), 8);
        be("no room", children("4,1-"), -1);
        be("no room for what is no line either", children("x"), -1);
        be("empty has room", children(""), 0);
        start("5");
        be("six", children("4,1-" + times(";5,2-", 5)), 6);
        be("no room for the third", children("6,3-;6,3-;6,3-"), -11);
        be("ends where there is no room", children("6,3-;6,3-;"), -11);
        be("none of these came", x.count(1), 6);
        be("two come", children("6,3-;6,3f"), 2);
        be("friend f", child(7, 2), 5);
        start("5 (others forget what can be undone)");
        x.moat(0);
        children("4,x");
        be("refused forgets nothing", x.count(11), 1);
        children("");
        be("empty forgets nothing", x.count(11), 1);
        children("4,1-");
        be("forgotten", x.count(11), 0);
    }

    private static void rules() {
        start("6");
        shore("000");
        x.set(0, 3);
        x.moat(1);
        be("none", x.level(0), 60);
        be("number", levelBy("7"), 7);
        be("three digits", levelBy("999"), 999);
        be("leading zeros", levelBy("007"), 7);
        be("w", levelBy("w"), 3);
        be("c", levelBy("c"), 3);
        be("m", levelBy("m"), 1);
        be("put to 999", levelBy("999+1"), 999);
        be("put to 0", levelBy("0-1"), 0);
        be("* binds more", levelBy("2+3*4"), 14);
        be("- from the left", levelBy("20-5-3"), 12);
        be("/ from the left", levelBy("100/5*2"), 40);
        be("cut", levelBy("17/5"), 3);
        be("cut to 0", levelBy("10+-7/2"), 7);
        be("by 0", levelBy("5+9/0"), 5);
        be("- ahead of a thing", levelBy("9*-2+20"), 2);
        be("any many", levelBy("20---5"), 15);
        be("- ahead of ( )", levelBy("9--(2+3)"), 14);
        be("<", levelBy("(1<2)*5"), 5);
        be("<", levelBy("(2<2)*5"), 0);
        be(">", levelBy("3>2"), 1);
        be(">", levelBy("2>2"), 0);
        be(">", levelBy("1>2"), 0);
        be("=", levelBy("2=1"), 0);
        be("=", levelBy("2=1+1"), 1);
        be("= binds least", levelBy("3=2+1*1"), 1);
        be("( ) in one another", levelBy("((((7))))"), 7);
        be("as ints", levelBy("0-999*999*999*3"), 999);
        be("as ints, below 0", levelBy("999*999*999*3"), 0);
        be("empty: none again", levelBy(""), 60);
        be("a number by 8", levelBy("n"), 0);
        be("level(7)", x.level(7), 7);
        be("level(8)", x.level(8), 0);
        badRules();
    }

    private static void badRules() {
        start("6");
        String[] bad = {"x", "1+", "+1", "(1", "1)", "()", "1234", "12 3", "1<2<3", "1<2=3", "(1<2)>(3", "1(2)", "nn", "n1",
            "1n", "(((((1)))))", "-", "1-", "1*/2", "*", "1+(", "N", "1\u0000", "(1<2<3)"};
        int[] at = {0, 2, 0, 2, 1, 1, 3, 2, 3, 3, 8, 1, 1, 1, 1, 4, 1, 2, 2, 0, 3, 0, 1, 4};
        be("level", levelBy("42"), 42);
        for (int i = 0; i < bad.length; i++) {
            be("rule " + bad[i], rule(bad[i]), -1 - at[i]);
        }
        be("the rule stayed", x.level(0), 42);
        be("40 signs", rule(times("1+", 19) + "11"), 0);
        be("level", x.level(0), 30);
        be("40 signs that end too early", rule(times("1+", 20)), -41);
        be("41 signs, 40 could go on", rule(times("1+", 20) + "1"), -41);
        be("41 signs, 40 could end", rule(times("1+", 19) + "11x"), -41);
        be("41 signs, 40 are open", rule("(" + times("1+", 19) + "1)"), -41);
        be("a fault ahead of 40", rule(times("1+", 19) + "+1+1"), -39);
        be("a fault at 39", rule(times("1+", 19) + "1x1"), -40);
        be("80 signs", rule(times("1+", 39) + "11"), -41);
        be("level", x.level(0), 30);
        be("40 times -", levelBy(times("-", 38) + "17"), 17);
        be("39 times -", levelBy("50" + times("-", 37) + "7"), 43);
    }

    private static void asked() {
        start("7");
        shore("3|25");
        children("7,4-;8,3-");
        x.go(0, 1);
        x.go(1, 1);
        x.build(1);
        x.moat(1);
        int[] want = {5, 7, 1, 0, 0, 3, 57};
        for (int what = 0; what <= 6; what++) {
            be("cell(1, " + what + ")", cell(1, what), want[what]);
        }
        be("dyke", cell(0, 4), 2);
        rule("60");
        x.tide();
        be("depth", cell(0, 3), 30);
        int[] wrong = {-1, 2, 12, Integer.MAX_VALUE, Integer.MIN_VALUE};
        for (int c : wrong) {
            be("cell(" + c + ", 0)", cell(c, 0), NOTHING);
        }
        be("what 7", cell(0, 7), NOTHING);
        be("what -1", cell(0, -1), NOTHING);
        start("8");
        shore("0000");
        children("7,4-;13,9a;9,5a");
        x.go(0, 0);
        x.go(1, 1);
        x.go(2, 3);
        x.spade(1);
        int[] child1 = {13, 9, 0, 5, 1, 1, 6};
        for (int what = 0; what <= 6; what++) {
            be("child(1, " + what + ")", child(1, what), child1[what]);
        }
        be("beside one whose friend it is", child(0, 6), 5);
        be("too far", child(2, 6), 5);
        x.go(2, 1);
        be("neighbouring", child(2, 6), 6);
        x.go(2, 0);
        be("the same cell", child(2, 6), 6);
        be("two friends count once", child(0, 6), 5);
        x.sheet(2, 3, 2, 0);
        be("bad mood", child(0, 6), 2);
        be("bad mood and 13", child(1, 6), 3);
        x.sheet(2, 3, 3, 0);
        be("mood 3", child(0, 6), 5);
        x.home(0);
        be("no friend, home", child(0, 6), 0);
        be("home", child(0, 5), NONE);
        be("no such", child(3, 0), NOTHING);
        be("no such", child(-1, 0), NOTHING);
        be("what 7", child(0, 7), NOTHING);
        be("what -1", child(0, -1), NOTHING);
    }

    private static void settings() {
        start("9");
        children("7,4-;8,3-;9,9-");
        be("wind 9", x.set(0, 9), 0);
        be("wind", x.count(3), 9);
        be("level", x.level(0), 120);
        be("wind 10", x.set(0, 10), NONE);
        be("wind -1", x.set(0, -1), NONE);
        be("wind 0", x.set(0, 0), 9);
        be("spades 8", x.set(1, 8), 2);
        be("spades 9", x.set(1, 9), NONE);
        be("spades -1", x.set(1, -1), NONE);
        be("what 2", x.set(2, 1), NONE);
        be("what -1", x.set(-1, 1), NONE);
        x.spade(0);
        x.spade(2);
        be("fewer than are had", x.set(1, 1), NONE);
        be("as many as are had", x.set(1, 2), 8);
        be("count(4)", x.count(4), 2);
        be("all are had", x.spade(1), -2);
        x.spade(0);
        be("spades 1", x.set(1, 1), 2);
        be("undo", x.undo(), 2);
        be("more are had than there are", x.count(5), 5);
        be("all are had", x.spade(1), -2);
        be("give back", x.spade(2), 1);
        be("get", x.spade(1), -2);
    }

    private static void sheets() {
        start("10");
        children("7,4-;8,3-;9,9-");
        be("ints", x.sheet(2, 3, 1, 2), 9);
        be("moods", moodsTold(), 135);
        be("put to 0 .. 9", x.sheet(2, 3, -4, 8), 13);
        be("moods", moodsTold(), 49);
        be("fewer entries", x.sheet(2, 2, 7, 0), 14);
        be("moods", moodsTold(), 770);
        be("more entries", x.sheet(2, 8, 1, 1), 6);
        be("moods", moodsTold(), 123);
        be("no entries", x.sheet(2, 0, 5, 5), 0);
        be("bytes: the lowest bits", x.sheet(0, 3, 256 + 3, 1), 12);
        be("bytes with their sign", x.sheet(0, 3, 128, 126), 9);
        be("moods", moodsTold(), 0 * 100 + 0 * 10 + 9);
        be("shorts: the lowest bits", x.sheet(1, 3, 65536 + 2, 0), 6);
        be("shorts with their sign", x.sheet(1, 3, 32768, 0), 0);
        be("shorts are more than bytes", x.sheet(1, 3, 256, 0), 27);
        be("ints are more than shorts", x.sheet(2, 3, 65536, 0), 27);
        be("ints go round", x.sheet(2, 3, Integer.MAX_VALUE, 1), 9);
        be("moods", moodsTold(), 900);
        be("n below 0", x.sheet(0, -1, 5, 0), -2);
        be("n below 0", x.sheet(2, Integer.MIN_VALUE, 5, 0), -2);
        be("nothing changed", moodsTold(), 900);
        be("n above 8", x.sheet(0, 9, 5, 0), NONE);
        be("n above 8 of kind 3", x.sheet(3, 9, 5, 0), NONE);
        be("kind 4", x.sheet(4, -1, 5, 0), NONE);
        be("kind -1", x.sheet(-1, 3, 5, 0), NONE);
        be("nothing changed", moodsTold(), 900);
        be("missing", x.sheet(3, -5, 5, 0), -3);
        be("all 0", moodsTold(), 0);
        be("no act", x.count(11), 0);
    }

    // ---- spells, tides

    private static void comeAndGo() {
        start("11");
        shore("000");
        children("7,4-;8,3-");
        be("from home", x.go(0, 2), 0);
        be("from cell 2", x.go(0, 0), 3);
        be("from cell 0", x.go(0, 1), 1);
        be("there already", x.go(0, 1), -3);
        be("no such child", x.go(2, 0), NONE);
        be("no such child", x.go(-1, 0), NONE);
        be("no such cell", x.go(0, 3), NONE);
        be("no such cell", x.go(0, -1), NONE);
        x.sheet(2, 2, 0, 5);
        be("mood 0", x.go(0, 2), -2);
        be("mood 0, there already", x.go(0, 1), -2);
        be("mood 0, no such cell", x.go(0, 3), NONE);
        be("it is there", child(0, 5), 1);
        be("three acts", x.count(11), 3);
        start("12");
        shore("000");
        children("7,4-;8,3-");
        x.go(0, 2);
        x.go(1, 0);
        be("home", x.home(0), 2);
        be("it is", x.home(0), -2);
        be("home from cell 0", x.home(1), 0);
        be("no such", x.home(2), NONE);
        be("no such", x.home(-1), NONE);
        be("home", x.count(8), 3);
        be("acts", x.count(11), 4);
    }

    private static void spadesTreatsMoats() {
        start("13");
        children("7,4-;8,3-;9,9-");
        be("gets", x.spade(0), 1);
        be("gets", x.spade(2), 2);
        be("all are had", x.spade(1), -2);
        be("who", x.count(5), 5);
        be("gives back", x.spade(0), 1);
        be("gets", x.spade(1), 2);
        be("who", x.count(5), 6);
        be("no such", x.spade(3), NONE);
        be("no such", x.spade(-1), NONE);
        start("14");
        children("7,4-;8,3-");
        be("treat", x.treat(1), 8);
        be("9 at most", x.treat(1), 9);
        be("9 at most", x.treat(1), 9);
        be("the other", child(0, 3), 5);
        be("no such", x.treat(2), NONE);
        be("no such", x.treat(-1), NONE);
        x.sheet(3, 0, 0, 0);
        be("from 0", x.treat(0), 3);
        start("15");
        shore("000");
        be("dug", x.moat(0), 1);
        be("dug", x.moat(2), 2);
        be("moats", x.count(6), 5);
        be("filled", x.moat(0), 1);
        be("moats", x.count(6), 4);
        be("no such", x.moat(3), NONE);
        be("no such", x.moat(-1), NONE);
    }

    private static void building() {
        start("16");
        shore("00");
        children("7,4-;9,6a;13,9-");
        x.go(0, 0);
        x.go(1, 1);
        x.go(2, 1);
        x.sheet(2, 3, 4, -1);
        // Moods 4 3 2: 5 + 7 + 2, then 3 2 1: 5 + 3 + 2, then 2 1 and home: 2 + 3.
        be("three spells", x.build(3), 29);
        rowIs(6);
        be("wall", cell(0, 1), 12);
        be("wall", cell(1, 1), 17);
        be("moods", moodsTold(), 100);
        be("who is home", x.count(8), 6);
        promise = "promise 16 (as all is ahead): ";
        x.sheet(2, 3, 1, 8);
        x.go(1, 1);
        be("a friend that goes home now counts yet", x.build(1), 2 + 7);
        rowIs(1);
        be("then no more", child(1, 6), 6);
        start("16");
        children("7,4-");
        be("nobody there", x.build(30), 0);
        rowIs(0);
        x.go(0, 0);
        x.sheet(3, 0, 0, 0);
        be("mood 0 at a cell builds half", x.build(1), 2);
        rowIs(1);
        be("n 0", x.build(0), 0);
        rowIs(0);
        be("n 31", x.build(31), NONE);
        be("n -1", x.build(-1), NONE);
        be("acts", x.count(11), 4);
        highWall();
    }

    private static void highWall() {
        start("16 (999 at most)");
        x.set(1, 8);
        children("7,9-" + times(";7,9a", 7));
        int all = 0;
        for (int i = 0; i < 8; i++) {
            x.spade(i);
        }
        for (int i = 0; i < 2; i++) {
            x.sheet(2, 8, 9, 0);
            for (int k = 0; k < 8; k++) {
                x.go(k, 0);
            }
            int work = x.work(9);
            int built = x.build(9);
            be("work", work, built);
            all += built;
        }
        be("first 7 * 96 + 2 * 48, then the rest", all, 999);
        be("wall", cell(0, 1), 999);
        be("top", cell(0, 6), 999);
        rule("999");
        be("it holds", x.tide(), 0);
        be("wash", cell(0, 1), 999 - 249);
    }

    private static void tidesCome() {
        start("17");
        shore("3|254");
        rule("45");
        be("breaks", x.tide(), 5);
        rowIs(45, 15 + 12 + 11);
        be("depth", cell(0, 3), 15);
        be("water goes on", cell(1, 3), 12);
        be("water goes on", cell(2, 3), 11);
        be("tide", x.count(2), 1);
        rule("53");
        be("breaks", x.tide(), 7);
        // 15 + 23, 12 + 3, 11 + 13; then the middle has 38 - 3 and the last 35 - 1.
        rowIs(53, 38 + 35 + 34 - 38);
        be("depth 999 at most", levelBy("999"), 999);
        x.tide();
        be("depth", cell(0, 3), 999);
        be("depth", cell(1, 3), 996);
        be("depth", cell(2, 3), 995);
        x.tide();
        be("depth", cell(2, 3), 999);
        walls();
        start("18");
        shore("000");
        rule("20");
        x.tide();
        be("pumped", x.pump(19), 3);
        be("depth", cell(0, 3), 1);
        be("pumped dry", x.pump(99), 0);
        be("0 at least", cell(0, 3), 0);
        be("n 0", x.pump(0), NONE);
        be("n 100", x.pump(100), NONE);
        be("acts", x.count(11), 3);
        x.undo();
        be("n 1", x.pump(1), 0);
    }

    private static void walls() {
        start("17 (wash)");
        shore("10000");
        children("7,9-;7,9-;7,9-;7,9-");
        for (int i = 0; i < 4; i++) {
            x.go(i, i);
        }
        x.sheet(2, 4, 9, 0);
        x.build(4);
        x.moat(1);
        x.moat(2);
        x.home(2);
        x.moat(4);
        rule("35");
        // Tops 46, 36, 36, 36, 0.
        be("breaks", x.tide(), 16);
        rowIs(35, 35 + 34 + 33 + 32 + 31);
        be("washed from its base on", cell(0, 1), 36 - 6);
        be("washed by 8", cell(1, 1), 36 - 4);
        be("washed by 8", cell(2, 1), 36 - 4);
        be("washed by 4", cell(3, 1), 36 - 8);
        be("the moat is gone", x.count(6), 6);
        rule("32");
        be("not above is no break", x.tide(), 24);
        be("halved", cell(3, 1), 14);
        be("0 at least below its base", cell(0, 1), 30 - 5);
        rule("5");
        x.tide();
        be("nothing to wash", cell(0, 1), 25);
        be("1 of 4 and more", cell(3, 1), 13);
        rule("n");
        be("n goes on", x.level(0), 3);
        start("17 (0 at least)");
        shore("9");
        rule("999");
        x.tide();
        be("depth", cell(0, 3), 909);
        children("7,4-");
        x.go(0, 0);
        x.build(1);
        rule("94");
        be("it holds by 4", x.tide(), 0);
        be("washed", cell(0, 1), 3);
    }

    private static void summersTold() {
        start("19");
        shore("000");
        children("7,4-;9,6a");
        be("all", summer("gaagbbsatbmcb2w"), 7);
        rowIs(0, 3);
        be("places", child(0, 5) * 10 + child(1, 5), 1);
        be("spade", x.count(5), 1);
        be("tide", x.count(2), 1);
        be("as one", x.count(11), 1);
        be("undo", x.undo(), 0);
        be("home", x.count(8), 3);
        be("tide", x.count(2), 0);
        be("moods", moodsTold(), 55);
        be("till one is refused", summer("gaagaaw"), 1);
        rowIs(1, 0);
        be("the first was done", child(0, 5), 0);
        be("the first is refused", summer("haha"), 1);
        rowIs(1, 0);
        be("acts", x.count(11), 2);
        be("none done", summer("haw"), 0);
        rowIs(1, 0);
        be("acts", x.count(11), 2);
        be("no such child", summer("tc"), 0);
        be("no such cell", summer("ml"), 0);
        be("no such child, no such cell", summer("ghl"), 0);
        be("nothing", summer(""), 0);
        rowIs(0, 0);
        be("acts", x.count(11), 2);
        be("b0", summer("b0b9"), 2);
        badSummers();
    }

    private static void badSummers() {
        start("19");
        children("7,4-");
        String[] bad = {"x", "g", "ga", "gaa", "gi", "gam", "h", "hi", "s", "si", "t", "t0", "m", "mm", "b", "ba", "wx", "wg", "W",
            "ww1", "p1", "ga0"};
        int[] at = {0, 1, 2, -1, 1, 2, 1, 1, 1, 1, 1, 1, 1, 1, 1, 1, 1, 2, 0, 2, 0, 2};
        for (int i = 0; i < bad.length; i++) {
            int want = at[i] < 0 ? 1 : -1 - at[i];
            be("summer " + bad[i], summer(bad[i]), want);
        }
        be("nothing of these was done", x.count(2), 0);
        be("but one", x.count(11), 1);
        x.undo();
        be("61 signs", summer(times("w", 61)), -61);
        be("61 signs, cut in an act", summer(times("w", 59) + "ga"), -61);
        be("61 signs, a fault ahead", summer(times("w", 59) + "xw"), -60);
        be("60 signs that end too early", summer(times("w", 59) + "g"), -61);
        be("80 signs", summer(times("w", 80)), -61);
        be("nothing was done", x.count(2), 0);
        be("60 signs", summer(times("w", 60)), 60);
        be("tide", x.count(2), 60);
        rowIs(0, 1);
    }

    private static void undone() {
        start("20");
        be("none", x.undo(), NONE);
        shore("00");
        children("7,4-;9,6a");
        x.go(0, 0);
        x.home(0);
        x.go(0, 0);
        x.spade(0);
        x.treat(0);
        x.moat(1);
        x.build(1);
        x.tide();
        x.pump(5);
        summer("hagaa");
        x.go(9, 9);
        x.home(1);
        x.pump(0);
        x.build(99);
        be("ten", x.count(11), 10);
        be("summer", x.undo(), 9);
        be("place", child(0, 5), 0);
        be("depth", cell(0, 3), 24);
        be("pump", x.undo(), 8);
        // 24 over its own wall, but 30 - 1 from beside.
        be("depth", cell(0, 3), 29);
        be("tide", x.undo(), 7);
        be("depth", cell(0, 3), 0);
        be("wall", cell(0, 1), 6);
        be("tide", x.count(2), 0);
        be("moat", x.count(6), 2);
        be("build", x.undo(), 6);
        be("wall", cell(0, 1), 0);
        be("mood", child(0, 3), 8);
        be("moat", x.undo(), 5);
        be("moat", x.count(6), 0);
        be("treat", x.undo(), 4);
        be("mood", child(0, 3), 5);
        be("spade", x.undo(), 3);
        be("spade", x.count(5), 0);
        be("go", x.undo(), 2);
        be("place", child(0, 5), NONE);
        be("home", x.undo(), 1);
        be("place", child(0, 5), 0);
        be("go", x.undo(), 0);
        be("place", child(0, 5), NONE);
        be("none", x.undo(), NONE);
        fifteenUndone();
    }

    private static void fifteenUndone() {
        start("20");
        for (int i = 0; i < 20; i++) {
            x.tide();
        }
        be("15 are kept", x.count(11), 15);
        for (int i = 14; i >= 0; i--) {
            be("undo", x.undo(), i);
        }
        be("the latest ones", x.count(2), 5);
        be("none", x.undo(), NONE);
        be("tide stays", x.count(2), 5);
        x.tide();
        x.tide();
        be("undo", x.undo(), 1);
        x.moat(0);
        be("undo", x.undo(), 1);
        be("undo", x.undo(), 0);
        be("tide", x.count(2), 5);
        promise = "promise 20 (what forgets): ";
        x.moat(0);
        x.keep(1);
        be("again refused forgets nothing", x.again(0) ? 1 : 0, 0);
        be("one", x.count(11), 1);
        yes("again", x.again(1));
        be("forgotten", x.undo(), NONE);
        x.moat(0);
        x.sheet(2, 1, 1, 1);
        x.set(0, 4);
        rule("5");
        x.seen(0, 5);
        be("undo", x.undo(), 0);
        be("wind stays", x.count(3), 4);
        be("the rule stays", x.level(0), 5);
        be("seen stays", x.count(10), 1);
        start("20 (moods are as ahead)");
        children("7,4-");
        x.moat(0);
        x.sheet(2, 1, 9, 0);
        x.undo();
        be("mood", child(0, 3), 5);
    }

    // ---- what is to come

    private static void toCome() {
        start("21");
        shore("3|25");
        x.set(0, 1);
        be("the next", x.level(0), 40);
        rowIs(1);
        be("in 3", x.level(3), 55);
        rowIs(3);
        be("in 99", x.level(99), 55);
        be("n 100", x.level(100), NONE);
        be("n -1", x.level(-1), NONE);
        rowIs(3);
        x.tide();
        be("goes on from the tide", x.level(2), 55);
        be("equal is not below", levelBy("30"), 30);
        rowIs(0);
        start("22");
        shore("3|25");
        be("holds", x.holds(), 2);
        rowIs(1, 35);
        be("questions change nothing", x.count(2), 0);
        rule("(n=7)*31");
        be("holds", x.holds(), 8);
        rowIs(1, 31);
        x.tide();
        be("holds", x.holds(), 7);
        rule("30");
        be("not in 99", x.holds(), -2);
        rowIs(1, 31);
        start("22 (wash)");
        shore("39");
        children("7,6-");
        x.sheet(2, 1, 9, 0);
        x.go(0, 0);
        x.build(4);
        rule("53");
        // 54, then 23 / 4 = 5 less each.
        be("washed away", x.holds(), 2);
        rowIs(1, 53);
        x.moat(0);
        rule("50");
        // 54, then 20 / 8 = 2 less each: 52, 50, 48.
        be("with a moat", x.holds(), 4);
        rowIs(1, 50);
        start("22 (99)");
        shore("0");
        children("7,9-");
        for (int i = 0; i < 11; i++) {
            x.sheet(2, 1, 9, 0);
            x.go(0, 0);
            x.build(1);
        }
        rule("4");
        // 99, 1 less each: 4 left behind 95, 3 behind 96.
        be("holds", x.holds(), 97);
        x.home(0);
        children("7,2-;7,1-");
        x.go(1, 0);
        x.build(1);
        be("the last that is told", x.holds(), 99);
        be("the last that is told", x.moats(0), 99);
        x.go(2, 0);
        x.home(1);
        x.build(1);
        be("not in 99", x.holds(), -2);
        be("not in 99", x.moats(0), 100);
        moreToCome();
    }

    private static void moreToCome() {
        start("23");
        shore("3|25");
        be("none", x.tides(0), 0);
        rowIs(0, 0);
        be("ten", x.tides(10), 8);
        // Levels 30 .. 65 twice: cell 0 has 5 + .. + 35 and 0 and 5, cell 1 more by its own than by cell 0.
        be("fields", row(0), 2);
        be("depth", row(1), 145 + 142);
        be("n 61", x.tides(61), NONE);
        be("n -1", x.tides(-1), NONE);
        be("sixty", x.tides(60), 60 - 8);
        be("questions change nothing", x.count(2) + x.count(7), 0);
        x.tide();
        x.tide();
        be("from here", x.tides(1), 1);
        rowIs(2, 5 + 10 + 12);
        start("24");
        shore("22");
        children("7,4-;9,6-");
        x.go(0, 0);
        be("not by 30", x.spells(), -2);
        x.go(1, 1);
        be("spells", x.spells(), 3);
        x.build(3);
        be("enough", x.spells(), 0);
        be("moods", moodsTold(), 22);
        rule("34");
        be("half from now on", x.spells(), 1);
        rule("36");
        be("half from now on", x.spells(), 2);
        rule("37");
        be("then they are gone", x.spells(), -2);
        start("24 (30)");
        shore("9");
        be("nobody", x.spells(), 0);
        rule("91");
        be("nobody", x.spells(), -2);
    }

    private static void floodsAndDykes() {
        start("25");
        shore("0|10|300|0");
        be("an unfinished dyke is refused", x.count(0), 1);
        shore("0|10|300");
        be("floods", x.floods(0, 8), 15);
        // 8, 6, 2, 1.
        rowIs(4, 17);
        be("floods", x.floods(0, 6), 3);
        rowIs(2, 10);
        be("floods", x.floods(1, 3), 3);
        rowIs(2, 4);
        be("floods", x.floods(3, 1), 8);
        rowIs(1, 1);
        be("floods", x.floods(3, 999), 15);
        rowIs(4, 999 + 998 + 994 + 992);
        be("v 0", x.floods(0, 0), NONE);
        be("v 1000", x.floods(0, 1000), NONE);
        be("no such", x.floods(4, 5), NONE);
        be("no such", x.floods(-1, 5), NONE);
        x.tide();
        be("as if all were dry", x.floods(3, 1), 8);
        be("questions change nothing", x.count(7), 15);
        start("26");
        shore("0|10|300");
        be("both sides", x.raise(1, 5), 2);
        rowIs(3);
        be("one side", x.raise(1, 4), 1);
        rowIs(1);
        be("none", x.raise(1, 2), 0);
        rowIs(0);
        be("v 1", x.raise(0, 1), 0);
        be("beside a dyke of 3", x.raise(2, 4), 1);
        rowIs(4);
        be("beside a dyke of 3", x.raise(2, 5), 2);
        rowIs(6);
        be("the last", x.raise(3, 10), 1);
        rowIs(4);
        be("not by all", x.raise(3, 11), -2);
        be("not by all", x.raise(1, 999), -2);
        rowIs(4);
        be("v 0", x.raise(0, 0), NONE);
        be("v 1000", x.raise(0, 1000), NONE);
        be("no such", x.raise(4, 5), NONE);
        be("no such", x.raise(-1, 5), NONE);
        be("dykes stay", cell(0, 4), 1);
        shore("0");
        be("no neighbours", x.raise(0, 999), 0);
        shore("0|90");
        be("a dyke of 9", x.raise(0, 10), 0);
        be("a dyke of 9", x.raise(0, 11), -2);
    }

    // ---- who builds where

    private static void crews() {
        start("27");
        shore("939");
        children("7,4-;9,6a;8,5-;7,9-");
        rule("34");
        be("one", x.crew(15, 1), 1);
        // c of 5, b of 6 and d of 9 do, a of 4 does: the least row has a at HOME as long as it can.
        rowIs(NONE, NONE, NONE, 1);
        be("of those told", x.crew(7, 1), 1);
        rowIs(NONE, NONE, 1, NONE);
        be("of those told", x.crew(1, 1), 1);
        rowIs(1, NONE, NONE, NONE);
        rule("37");
        be("with a friend beside", x.crew(3, 1), 2);
        rowIs(0, 1, NONE, NONE);
        be("the least of as few", x.crew(7, 1), 2);
        rowIs(NONE, 1, 1, NONE);
        rule("42");
        be("two spells", x.crew(4, 2), -2);
        be("three spells", x.crew(4, 3), 1);
        rule("76");
        // In moods 5 .. 1, then home: 4 4 4 2 2, 6 6 6 3 3, 5 5 5 2 2, 9 9 9 4 4.
        be("nine spells", x.crew(15, 9), 2);
        rowIs(NONE, NONE, 1, 1);
        be("nobody told", x.crew(0, 1), -2);
        rule("30");
        be("nobody needed", x.crew(15, 1), 0);
        rowIs(NONE, NONE, NONE, NONE);
        x.go(3, 1);
        rule("39");
        be("all others are home", x.crew(7, 1), 2);
        be("no such child", x.crew(16, 1), NONE);
        be("no such child", x.crew(31, 1), NONE);
        be("bits below 0", x.crew(-1, 1), NONE);
        be("n 0", x.crew(1, 0), NONE);
        be("n 10", x.crew(1, 10), NONE);
        children("7,4-");
        be("five told", x.crew(31, 1), -3);
        be("four told", x.crew(30, 1), 1);
        x.sheet(2, 5, 0, 1);
        be("mood 0 can't", x.crew(1, 9), -2);
        be("questions change nothing", child(3, 5), 1);
        twoCells();
    }

    private static void twoCells() {
        start("27 (cells)");
        shore("22");
        children("7,4-;9,6-;8,5-");
        rule("25");
        be("two", x.crew(7, 1), 2);
        rowIs(NONE, 0, 1);
        rule("26");
        be("two can't", x.crew(6, 1), -2);
        be("three", x.crew(7, 1), 3);
        rowIs(0, 1, 0);
        start("27 (they go home)");
        shore("2");
        children("7,9-;7,9a");
        x.sheet(2, 2, 3, -2);
        rule("46");
        // a: 10, then 4 and 4 without b, who builds 5 and goes home.
        be("no", x.crew(3, 9), -2);
        rule("43");
        be("yes", x.crew(3, 9), 2);
    }

    private static void posts() {
        start("28");
        shore("322");
        children("7,4-;9,6a");
        rule("30");
        x.go(1, 1);
        be("where it is lowest", x.post(0, 1), 2);
        // Tops 30, 27, 24: the friend is beside, so 5 and 7.
        rowIs(1000 - 5);
        be("one is low wherever it goes", x.post(1, 9), 0);
        rowIs(1000 - 10);
        be("with both", x.post(0, 2), 2);
        rowIs(1000);
        x.home(1);
        be("the first of equal ones", x.post(0, 1), 0);
        rowIs(990);
        shore("2");
        be("one cell", x.post(1, 2), 0);
        rowIs(1000 + 20 + 12 - 30);
        be("no such", x.post(2, 1), NONE);
        be("no such", x.post(-1, 1), NONE);
        be("n 0", x.post(0, 0), NONE);
        be("n 10", x.post(0, 10), NONE);
        x.sheet(3, 0, 0, 0);
        be("mood 0", x.post(0, 1), -2);
        be("mood 0, n 0", x.post(0, 0), NONE);
        rowIs(1000 + 20 + 12 - 30);
        be("questions change nothing", x.count(8), 3);
        rule("999");
        shore("0");
        x.sheet(2, 1, 1, 0);
        be("far below", x.post(0, 1), 0);
        rowIs(1000 - 999 + 2);
    }

    private static void moatsAndSpades() {
        start("29");
        shore("222");
        children("7,9-;7,9-;7,9-");
        for (int i = 0; i < 3; i++) {
            x.go(i, i);
        }
        x.sheet(2, 3, 9, 0);
        x.build(4);
        x.home(0);
        rule("44");
        // Tops 56, wash 6 or 3: 56 50 44 38, or 56 53 50 47 44 41.
        be("none", x.moats(0), 4);
        rowIs(0);
        be("two don't help", x.moats(2), 4);
        rowIs(3);
        be("three", x.moats(3), 6);
        rowIs(7);
        be("four", x.moats(4), -2);
        be("k 5", x.moats(5), NONE);
        be("k -1", x.moats(-1), NONE);
        x.moat(0);
        be("all others are filled", x.moats(0), 4);
        be("questions change nothing", x.count(6), 1);
        x.go(1, 0);
        x.go(2, 0);
        x.build(1);
        // Top 0 is higher now: 74.
        be("where they are worth most", x.moats(2), 6);
        rowIs(6);
        rule("20");
        be("not in 99", x.moats(1), 100);
        rowIs(1);
        rule("57-m*20");
        // 37 by one MOAT, 57 by none: 56 52 48 44 40 36.
        be("m is how many", x.moats(1), 6);
        rowIs(1);
        be("m is how many", x.moats(0), 1);
        start("30");
        shore("0000");
        children("7,4-;9,6-;13,8-;7,5-");
        for (int i = 0; i < 3; i++) {
            x.go(i, i);
        }
        be("two of three", x.spades(), 4 + 6 + 4 + 4);
        rowIs(3);
        x.set(1, 1);
        be("one", x.spades(), 4 + 6 + 4 + 2);
        rowIs(1);
        x.set(1, 8);
        be("all", x.spades(), 4 + 6 + 4 + 5);
        rowIs(7);
        x.sheet(2, 4, 2, 0);
        be("in bad mood 2 3 2", x.spades(), 3 + 4 + 2);
        rowIs(3);
        x.spade(3);
        x.set(1, 1);
        be("as good ones: the least", x.spades(), 3 + 3 + 2);
        rowIs(1);
        x.spade(3);
        x.set(1, 0);
        be("none", x.spades(), 2 + 3 + 2);
        rowIs(0);
    }

    // ---- moods

    private static void moods() {
        start("31");
        shore("00");
        children("7,4-;9,6-;13,8-");
        x.go(0, 0);
        x.go(1, 1);
        x.sheet(2, 3, 5, -4);
        // Moods 5, 1, 0.
        be("four", x.treats(4), 2);
        rowIs(0, 2, 0);
        be("one", x.treats(1), 1);
        rowIs(0, 1, 0);
        be("eight", x.treats(8), 2 + 3);
        rowIs(2, 3, 0);
        be("nine", x.treats(9), -2);
        be("n 0", x.treats(0), NONE);
        be("n 10", x.treats(10), NONE);
        rowIs(2, 3, 0);
        x.sheet(3, 0, 0, 0);
        be("mood 0 at a cell", x.treats(2), 2);
        rowIs(1, 1, 0);
        x.home(0);
        x.home(1);
        be("nobody there", x.treats(9), 0);
        rowIs(0, 0, 0);
        start("32");
        shore("000");
        children("7,4-;9,6a");
        x.go(0, 0);
        x.go(1, 1);
        be("none", x.work(0), 0);
        rowIs(0, 0, 0);
        be("one", x.work(1), 12);
        rowIs(5, 7, 0);
        be("till they go home", x.work(30), 3 * 12 + 2 * 5);
        rowIs(19, 27, 0);
        be("n 31", x.work(31), NONE);
        be("n -1", x.work(-1), NONE);
        be("questions change nothing", x.count(9), 0);
        be("as build", x.build(5), 46);
        x.sheet(2, 2, 5, 0);
        x.go(0, 2);
        be("only what is added from now on", x.work(1), 4);
        rowIs(0, 0, 4);
    }

    // ---- laws

    private static void laws() {
        start("33");
        shore("3");
        be("none", law(""), 0);
        rowIs(17, 17);
        be("n 0 is 30, which holds", law("30+n*5"), 0);
        be("never", law("30"), -17);
        rowIs(0, 17);
        be("always", law("31"), 3);
        rowIs(20, 17);
        rule("30+n");
        x.tide();
        be("less the rule", law("31"), 20 - 18);
        be("the rule stays", x.level(0), 31);
        be("empty is none", law(""), 0);
        be("bad", law("x"), -10000);
        be("ends too early", law("30+"), -10003);
        be("41 signs", law(times("1+", 20) + "1"), -10040);
        be("1<2<3", law("1<2<3"), -10003);
        rowIs(18, 18);
        be("the rule stays", x.level(0), 31);
        be("questions change nothing", x.count(2), 1);
    }

    // ---- who built what

    private static void whoBuilt() {
        start("34");
        shore("000000");
        be("seen", x.seen(5, 0), 1);
        be("seen", x.seen(0, 99), 2);
        be("again", x.seen(5, 7), 2);
        be("seen", x.seen(2, 7), 3);
        be("v 100", x.seen(3, 100), NONE);
        be("v -1", x.seen(3, -1), NONE);
        be("no such", x.seen(6, 1), NONE);
        be("no such", x.seen(-1, 1), NONE);
        be("seen", x.seen(3, 7), 4);
        be("a fifth", x.seen(4, 7), NONE);
        be("not a fifth", x.seen(3, 8), 4);
        be("cells", x.count(10), 1 + 4 + 8 + 32);
        start("35");
        shore("00");
        be("none", x.forget(), 0);
        x.seen(0, 5);
        x.seen(1, 5);
        be("two", x.forget(), 2);
        be("none", x.forget(), 0);
        be("cells", x.count(10), 0);
        start("36");
        shore("000");
        be("nobody, nothing seen", x.ways(), 1);
        rowIs();
        children("7,4-;9,6-;8,2-;7,6-");
        be("nothing seen", x.ways(), 1);
        rowIs(NONE, NONE, NONE, NONE);
        x.seen(2, 6);
        // a and c, or b, or d.
        be("three", x.ways(), 3);
        rowIs(NONE, NONE, NONE, 2);
        x.seen(0, 6);
        be("six", x.ways(), 6);
        rowIs(NONE, 0, NONE, 2);
        x.seen(1, 6);
        be("six", x.ways(), 6);
        rowIs(0, 1, 0, 2);
        x.seen(1, 5);
        be("none", x.ways(), 0);
        rowIs();
        x.seen(1, 0);
        be("0 buckets: nobody", x.ways(), 6);
        whereOne();
    }

    private static void whereOne() {
        start("37");
        shore("000");
        children("7,4-;9,6-;8,2-;7,6-");
        be("nothing seen", x.was(0), 0);
        rowIs(1);
        x.seen(2, 6);
        x.seen(0, 8);
        // 8: a c and none more with 2 left .. b c, c d; 6: a c, b, d; so b c at 0 with d at 2, c d at 0 with b at 2.
        be("c", x.was(2), 1);
        rowIs(0);
        be("b", x.was(1), 5);
        rowIs(0);
        be("a", x.was(0), 0);
        rowIs(1);
        be("no such", x.was(4), NONE);
        be("no such", x.was(-1), NONE);
        rowIs(1);
        x.seen(0, 99);
        be("no way", x.was(0), 0);
        rowIs(0);
        x.forget();
        x.seen(1, 12);
        // b d, or a c b, or a c d.
        be("a", x.was(0), 2);
        rowIs(1);
        be("skill alone: a spade changes nothing", x.spade(0), 1);
        be("a", x.was(0), 2);
    }

    // ---- chance, rest

    private static void rain() {
        start("38");
        be("two days", x.rain(2, 1, 5), 0);
        rowIs(3, 4);
        x.rain(3, 2, 5);
        rowIs(3, 8);
        x.rain(1, 1, 3);
        rowIs(3, 10);
        x.rain(2, 2, 3);
        rowIs(9, 100);
        x.rain(1, 2, 5);
        rowIs(0, 1);
        x.rain(12, 12, 10);
        rowIs(1, 1);
        x.rain(12, 1, 0);
        rowIs(0, 1);
        x.rain(12, 12, 1);
        rowIs(1, 1000000000000L);
        x.rain(12, 1, 1);
        rowIs(1000000000000L - 282429536481L, 1000000000000L);
        x.rain(12, 12, 9);
        rowIs(282429536481L, 1000000000000L);
        be("n 0", x.rain(0, 1, 1), NONE);
        be("n 13", x.rain(13, 1, 1), NONE);
        be("k 0", x.rain(1, 0, 1), NONE);
        be("k 13", x.rain(1, 13, 1), NONE);
        be("p -1", x.rain(1, 1, -1), NONE);
        be("p 11", x.rain(1, 1, 11), NONE);
        rowIs(282429536481L, 1000000000000L);
    }

    private static void rests() {
        start("39");
        be("too dear", x.rests(1, 9), 1);
        rowIs(0, 0);
        // By 99 and 9 a beach beside 3 gets 33 - 18 for 2 .. 99 * 3 / 6 - 27 = 22 for 3, 56 - 36 = 20 for 4.
        be("99 and 9", x.rests(99, 9), pairsAtRest(99, 9));
        rowIs(leastX, leastY);
        be("99 and 0", x.rests(99, 0), 1);
        rowIs(9, 9);
        be("40 and 5", x.rests(40, 5), pairsAtRest(40, 5));
        rowIs(leastX, leastY);
        be("v 0", x.rests(0, 1), NONE);
        be("v 100", x.rests(100, 1), NONE);
        be("c -1", x.rests(1, -1), NONE);
        be("c 10", x.rests(1, 10), NONE);
        rowIs(leastX, leastY);
        for (int v = 1; v <= 99; v++) {
            x = new SandKeepsSea();
            for (int c = 0; c <= 9; c++) {
                int many = pairsAtRest(v, c);
                be("rests(" + v + ", " + c + ")", x.rests(v, c), many);
                be("numbers", x.count(12), many == 0 ? 0 : 2);
            }
        }
    }

    private static int leastX;
    private static int leastY;

    private static int pairsAtRest(int v, int c) {
        int many = 0;
        for (int a = 9; a >= 0; a--) {
            for (int b = 9; b >= 0; b--) {
                boolean rest = true;
                for (int o = 0; o <= 9; o++) {
                    rest &= gain(o, b, v, c) <= gain(a, b, v, c) && gain(o, a, v, c) <= gain(b, a, v, c);
                }
                if (rest) {
                    many++;
                    leastX = a;
                    leastY = b;
                }
            }
        }
        return many;
    }

    private static int gain(int own, int other, int v, int c) {
        return own == 0 ? 0 : v * own / (own + other) - c * own;
    }

    private static int drawn;

    private static int draw(int n) {
        drawn = drawn * 1103515245 + 12345;
        return (int) ((drawn & 0xffffffffL) / 65536 % n);
    }

    private static void summersDrawn() {
        start("40");
        be("n 0", x.summers(1, 0), NONE);
        be("n 61", x.summers(1, 61), NONE);
        be("n 1", x.summers(1, 1) >= 0 ? 1 : 0, 1);
        rule("5");
        int broken = 0;
        int tides = 0;
        drawn = -77;
        for (int i = 0; i < 60; i++) {
            tides += draw(4) == 3 ? 1 : 0;
        }
        be("nobody: no draws, each tide breaks", x.summers(-77, 60), tides);
        rowIs(1, 0);
        for (int seed = -40; seed < 40; seed++) {
            start("40");
            shore("123");
            children("7,4-;13,6a;5,9-");
            x.spade(0);
            x.sheet(2, 3, 9, -4);
            rule("20+n*3");
            broken = byActs(seed, 45);
            long wet = Integer.bitCount(x.count(7));
            long home = Integer.bitCount(x.count(8));
            x.again(0);
            be("summers(" + seed + ", 45)", x.summers(seed, 45), broken);
            rowIs(wet, home);
            be("questions change nothing", x.count(2) + x.count(7), 0);
        }
    }

    /** The same drawn summer by acts; then it is as at last kept under 0. */
    private static int byActs(int seed, int n) {
        x.keep(0);
        drawn = seed;
        int broken = 0;
        for (int i = 0; i < n; i++) {
            int what = draw(4);
            if (what < 2) {
                x.build(1);
            } else if (what == 2) {
                int who = draw(3);
                x.go(who, draw(3));
            } else {
                broken += x.tide() != 0 ? 1 : 0;
            }
        }
        return broken;
    }

    // ---- kept

    private static void keptAndCounted() {
        start("41");
        shore("00");
        children("7,4-;9,6a");
        no("keep(3)", x.keep(3));
        no("keep(-1)", x.keep(-1));
        x.go(0, 1);
        x.spade(1);
        x.moat(0);
        x.treat(0);
        x.build(1);
        rule("3");
        x.tide();
        yes("keep(0)", x.keep(0));
        yes("keep(2)", x.keep(2));
        be("keep is no act", x.count(11), 6);
        x.home(0);
        x.spade(1);
        x.moat(1);
        x.treat(1);
        x.tide();
        x.set(0, 7);
        x.pump(1);
        start42();
        start("43");
        counted();
        start("44");
        be("nothing told", row(0), NOTHING);
        x.rain(12, 12, 1);
        be("row(0)", row(0), 1);
        be("more than an int", row(1), 1000000000000L);
        be("row(2)", row(2), NOTHING);
        be("row(-1)", row(-1), NOTHING);
        be("row(min)", row(Integer.MIN_VALUE), NOTHING);
        be("row(max)", row(Integer.MAX_VALUE), NOTHING);
        x.set(0, 1);
        be("it stays", row(0), 1);
    }

    private static void start42() {
        promise = "promise 42: ";
        no("again(1)", x.again(1));
        no("again(3)", x.again(3));
        no("again(-1)", x.again(-1));
        yes("again(0)", x.again(0));
        be("place", child(0, 5), 1);
        be("spade", x.count(5), 2);
        be("moats", x.count(6), 0);
        be("water", x.count(7), 3);
        be("depth", cell(0, 3), 3);
        be("wall", cell(1, 1), 4);
        be("moods", moodsTold(), 75);
        be("tide", x.count(2), 1);
        be("wind is not kept", x.count(3), 7);
        be("nothing can be undone", x.undo(), NONE);
        yes("as often as one likes", x.again(0));
        children("");
        yes("nobody came", x.again(2));
        children("7,4-");
        no("children came", x.again(2));
        no("children came", x.again(0));
        yes("kept anew", x.keep(2));
        x.tide();
        yes("again", x.again(2));
        be("tide", x.count(2), 1);
        shore("00");
        no("nothing is kept behind shore()", x.again(2));
    }

    private static void counted() {
        shore("123");
        children("7,4-;9,6a;8,8-");
        x.set(0, 2);
        x.set(1, 3);
        x.spade(0);
        x.spade(2);
        x.moat(1);
        x.go(1, 2);
        x.build(2);
        rule("25");
        x.tide();
        x.seen(2, 12);
        x.seen(0, 0);
        x.sign(0);
        int[] want = {3, 3, 1, 2, 3, 5, 0, 7, 5, 12, 5, 6, 2, 4};
        for (int i = 0; i < want.length; i++) {
            be("count(" + i + ")", x.count(i), want[i]);
        }
        be("count(14)", x.count(14), -100);
        be("count(-1)", x.count(-1), -100);
        be("count(max)", x.count(Integer.MAX_VALUE), -100);
    }

    /** Every call that can be refused, refused: all that can be asked stays, and so does the ROW. */
    private static void refusedChangeNothing() {
        start("2 to 42 (refused)");
        shore("1|200");
        children("7,4-;9,6a");
        x.go(0, 1);
        x.spade(0);
        x.spade(1);
        x.moat(2);
        x.seen(1, 4);
        x.keep(0);
        x.tide();
        x.work(2);
        long before = allAsked();
        int min = Integer.MIN_VALUE;
        long[] answers = {x.set(0, min), x.set(min, 0), x.sheet(min, 0, 0, 0), x.sheet(0, 9, 1, 1), x.go(min, 0), x.go(0, min),
            x.home(min), x.spade(min), x.treat(min), x.moat(min), x.build(min), x.pump(min), x.level(min), x.tides(min),
            x.floods(min, 1), x.floods(0, min), x.raise(min, 1), x.raise(0, min), x.crew(min, 1), x.crew(1, min),
            x.post(min, 1), x.post(0, min), x.moats(min), x.treats(min), x.work(min), x.seen(min, 1), x.seen(0, min),
            x.was(min), x.rain(min, 1, 1), x.rain(1, min, 1), x.rain(1, 1, min), x.rests(min, 1), x.rests(1, min),
            x.summers(1, min)};
        for (int i = 0; i < answers.length; i++) {
            be("answer " + i, answers[i], NONE);
        }
        be("keep", x.keep(min) ? 1 : 0, 0);
        be("again", x.again(min) ? 1 : 0, 0);
        be("end", x.end(min) ? 1 : 0, 0);
        be("bad shore", shore("1|"), -3);
        be("bad children", children("1,"), -1);
        be("bad rule", rule("n+"), -3);
        be("bad summer", summer("wg"), -3);
        be("bad law", law("n+"), -10002);
        be("there already", x.go(0, 1), -3);
        be("home already", x.home(1), -2);
        be("not so many cells", x.moats(4), -2);
        be("all that can be asked", allAsked(), before);
        be("undo", x.undo(), 4);
    }

    private static long allAsked() {
        long all = 17;
        for (int i = 0; i < 14; i++) {
            all = all * 1000003 + x.count(i);
        }
        for (int c = 0; c < 12; c++) {
            for (int what = 0; what < 7; what++) {
                all = (all * 1000003 + cell(c, what)) * 1000003 + child(c, what);
            }
        }
        for (int i = 0; i < 12; i++) {
            all = all * 1000003 + row(i);
        }
        return all;
    }
}
