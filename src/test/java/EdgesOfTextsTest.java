/** Boundary cases of promises 1 to 6, a method for each sentence of the document that names some. */
public final class EdgesOfTextsTest extends Bench {
    private static final String LONGEST = "10,1-" + ";11,2a".repeat(7);

    public static void main(String[] args) {
        newObject();
        signs();
        ends();
        emptyTexts();
        shoreSigns();
        shoreLengths();
        shoreFaults();
        shoreForgets();
        shoreKeeps();
        ages();
        skills();
        friends();
        childrenFaults();
        childrenRoom();
        childrenLength();
        nothingOfItComes();
        childrenForget();
        ruleNumbers();
        ruleSigns();
        ruleNesting();
        ruleComparisons();
        ruleBindings();
        ruleDivision();
        ruleWraps();
        ruleThings();
        ruleLevel();
        ruleEnds();
        ruleLength();
        ruleStays();
        due.end();
    }

    /** All signs but those of a text: each is refused at p, behind a beginning and ahead of an end that would do. */
    private static String otherSigns(String taken) {
        StringBuilder all = new StringBuilder();
        for (char s = 0; s < 256; s++) {
            if (taken.indexOf(s) < 0) {
                all.append(s);
            }
        }
        return all.toString();
    }

    // ---- 1

    private static void newObject() {
        start("1 (one cell of base 0, no children, all else as at first)");
        int[] counts = {1, 0, 0, 0, 2, 0, 0, 0, 0, 0, 0, 0, 0, 0};
        for (int what = 0; what < counts.length; what++) {
            be("count(" + what + ")", x.count(what), counts[what]);
        }
        for (int what = 0; what <= 6; what++) {
            be("cell(0, " + what + ")", cell(0, what), 0);
            be("cell(1, " + what + ")", cell(1, what), NOTHING);
            be("child(0, " + what + ")", child(0, what), NOTHING);
        }
        be("undo()", x.undo(), NONE);
        be("forget()", x.forget(), 0);
        for (int i = 0; i < 3; i++) {
            no("again(" + i + ")", x.again(i));
        }
        be("no rule: 30+w*10+n*5", x.level(0), 30);
        x.set(0, 9);
        be("no rule: 30+w*10+n*5", x.level(7), 30 + 90 + 35);
        SandKeepsSea other = new SandKeepsSea();
        x.tide();
        be("another object has its own", other.count(2), 0);
    }

    // ---- 2, 3

    private static void signs() {
        start("2 (four signs, the highest byte first)");
        be("0x31323334", x.sign(0x31323334), 4);
        be("four cells", x.shore(), 4);
        for (int c = 0; c < 4; c++) {
            be("base", cell(c, 0), c + 1);
        }
        be("-1 is four signs of 255", x.sign(-1), 4);
        be("255 is no digit", x.shore(), -1);
        be("a byte above 127", x.sign(0x31b1ffff), 4);
        be("177 is not 49", x.shore(), -2);
        be("0", x.sign(0), 4);
        be("0 is a sign", x.shore(), -1);
        be("min", x.sign(MIN), 4);
        be("128 is a sign", x.shore(), -1);
        start("2 (refused: more than 80)");
        for (int n = 4; n <= 80; n += 4) {
            be("sign", x.sign(0x35353535), n);
        }
        be("84", x.sign(0x35353535), NONE);
        be("84", x.sign(0), NONE);
        be("80 stay", x.count(13), 80);
        for (int n = 77; n <= 79; n++) {
            yes("end", x.end(n));
            be(n + " and 4", x.sign(0x35353535), NONE);
            be(n + " stay", x.count(13), n);
            write(times("5", 80));
        }
        yes("end", x.end(76));
        be("76 and 4", x.sign(0x36363636), 80);
        yes("the signs are what they were", x.end(12));
        be("twelve cells", x.shore(), 12);
        be("base", cell(11, 0), 5);
    }

    private static void ends() {
        start("3 (the first n alone; false: it has not so many, n below 0)");
        yes("0 of none", x.end(0));
        no("1 of none", x.end(1));
        no("-1 of none", x.end(-1));
        x.sign(0x37383930);
        no("5 of 4", x.end(5));
        no("max", x.end(MAX));
        no("-1", x.end(-1));
        no("min", x.end(MIN));
        be("4 stay", x.count(13), 4);
        yes("4 of 4", x.end(4));
        be("4 stay", x.count(13), 4);
        yes("3 of 4", x.end(3));
        be("3", x.count(13), 3);
        no("4 of 3", x.end(4));
        be("what comes then comes behind these", x.sign(0x31323334), 7);
        be("seven cells", x.shore(), 7);
        be("third", cell(2, 0), 9);
        be("fourth", cell(3, 0), 1);
        for (int i = 0; i < 20; i++) {
            x.sign(0x31313131);
        }
        no("81 of 80", x.end(81));
        yes("80 of 80", x.end(80));
        be("80", x.count(13), 80);
        yes("0 of 80", x.end(0));
        be("0", x.count(13), 0);
    }

    private static void emptyTexts() {
        start("4, 5, 6, 19, 33 (an empty text)");
        be("shore", shore(""), -1);
        be("children", children(""), 0);
        be("rule", rule(""), 0);
        be("summer", summer(""), 0);
        rowIs(0, 0);
        be("law", law(""), 0);
        rowIs(20, 20);
    }

    // ---- 4

    private static void shoreSigns() {
        start("4 (base 0 .. 9, dyke 0 .. 9)");
        for (int d = 0; d <= 9; d++) {
            be("base and dyke " + d, shore(d + "|" + d + "1"), 2);
            be("base", cell(0, 0), d);
            be("dyke", cell(0, 4), d);
            be("top is 10 times base", cell(0, 6), 10 * d);
        }
        be("no dyke told: 0", shore("55"), 2);
        be("dyke", cell(0, 4), 0);
        start("4 (another sign)");
        String others = otherSigns("0123456789");
        for (int i = 0; i < others.length(); i++) {
            String s = others.substring(i, i + 1);
            be("first: " + (int) s.charAt(0), shore(s + "1"), -1);
            if (i % 60 == 0) {
                x = new SandKeepsSea();
            }
        }
        for (int i = 0; i < others.length(); i++) {
            String s = others.substring(i, i + 1);
            if (i % 20 == 0) {
                x = new SandKeepsSea();
            }
            if (!s.equals("|")) {
                be("behind a cell: " + (int) s.charAt(0), shore("1" + s), -2);
            }
            be("behind |: " + (int) s.charAt(0), shore("1|" + s), -3);
            be("behind a dyke: " + (int) s.charAt(0), shore("1|2" + s), -4);
        }
    }

    private static void shoreLengths() {
        start("4 (1 .. 12 cells)");
        for (int n = 1; n <= 12; n++) {
            be(n + " cells", shore("123456789012".substring(0, n)), n);
            be("count(0)", x.count(0), n);
            be("last", cell(n - 1, 0), n % 10);
            be("none behind it", cell(n, 0), NOTHING);
        }
        start("4 (34 signs)");
        String longest = "0|91|82|73|64|55|46|37|28|19|00|91";
        be("34 signs", longest.length(), 34);
        be("twelve", shore(longest), 12);
        for (int c = 0; c < 11; c++) {
            be("base " + c, cell(c, 0), c % 10);
            be("dyke " + c, cell(c, 4), 9 - c % 10);
        }
        be("base 11", cell(11, 0), 1);
        be("dyke 11", cell(11, 4), 0);
        be("a digit more", shore(longest + "1"), -35);
        be("| more", shore(longest + "|"), -35);
        be("another sign more", shore(longest + "x"), -35);
        be("80 signs", shore(longest + times("x", 46)), -35);
        be("35 signs that fail ahead", shore("x" + longest), -1);
    }

    private static void shoreFaults() {
        start("4 (its end, if it ends too early)");
        be("no cell", shore(""), -1);
        be("behind |", shore("1|"), -3);
        be("behind | of the eleventh", shore("12345678901|"), -13);
        be("behind a dyke", shore("1|2"), -4);
        be("behind the last dyke", shore(times("1|2", 11)), -34);
        start("4 (a thirteenth cell, | behind the twelfth: at it)");
        be("a thirteenth", shore("1234567890123"), -13);
        be("a thirteenth of 80", shore(times("1", 80)), -13);
        be("|", shore("123456789012|"), -13);
        be("| and a cell", shore("123456789012|34"), -13);
        be("| behind the eleventh", shore("12345678901|23"), 12);
    }

    /** Two CELLS, a WALL, a MOAT, water, a CHILD out with a spade, a TIDE, a sight, acts, three kept. */
    private static void fill() {
        shore("0|12");
        children("7,4-;9,6a");
        x.set(0, 4);
        x.set(1, 3);
        x.treat(0);
        x.spade(0);
        x.go(0, 1);
        x.build(1);
        x.moat(1);
        rule("21");
        x.tide();
        x.seen(1, 4);
        for (int i = 0; i < 3; i++) {
            x.keep(i);
        }
        x.rain(3, 2, 5);
    }

    private static void shoreForgets() {
        start("4 (no walls, moats, no water, all home, tide 0, nothing seen, undone, kept)");
        fill();
        be("told anew", shore("0|12"), 2);
        for (int c = 0; c < 2; c++) {
            be("wall", cell(c, 1), 0);
            be("moat", cell(c, 2), 0);
            be("depth", cell(c, 3), 0);
            be("children there", cell(c, 5), 0);
        }
        be("moats", x.count(6), 0);
        be("water", x.count(7), 0);
        be("home", x.count(8), 3);
        be("walls", x.count(9), 0);
        be("tide", x.count(2), 0);
        be("seen", x.count(10), 0);
        be("seen", x.forget(), 0);
        be("acts", x.count(11), 0);
        be("undo", x.undo(), NONE);
        for (int i = 0; i < 3; i++) {
            no("again(" + i + ")", x.again(i));
        }
        be("wind stays", x.count(3), 4);
        be("spades stay", x.count(4), 3);
        be("who has one stays", x.count(5), 1);
        be("moods stay", moodsTold(), 75);
        be("the rule stays", x.level(0), 21);
        start("4 (more cells than there were are as new)");
        fill();
        shore("0");
        be("twelve", shore("000000000000"), 12);
        for (int c = 0; c < 12; c++) {
            be("wall", cell(c, 1), 0);
            be("dyke", cell(c, 4), 0);
        }
    }

    private static void shoreKeeps() {
        String[] bad = {"", "x", "1|", "1|2", "1234567890123"};
        for (String t : bad) {
            start("4 (refused: nothing changes but the text)");
            fill();
            yes("refused", shore(t) < 0);
            be("cells", x.count(0), 2);
            be("base", cell(1, 0), 2);
            be("dyke", cell(0, 4), 1);
            be("wall", cell(1, 1), 6);
            be("moat", x.count(6), 2);
            be("depth", cell(0, 3), 21);
            be("out", x.count(8), 2);
            be("tide", x.count(2), 1);
            be("seen", x.count(10), 2);
            rowIs(3, 8);
            be("acts", x.count(11), 6);
            be("undo", x.undo(), 5);
            for (int i = 0; i < 3; i++) {
                yes("again(" + i + ")", x.again(i));
            }
        }
    }

    // ---- 5

    private static void ages() {
        for (int age = 0; age <= 99; age++) {
            start("5 (age 4 .. 13, else refused at its last digit)");
            boolean taken = age >= 4 && age <= 13;
            int last = age > 9 ? 1 : 0;
            be("age " + age, children(age + ",1-"), taken ? 1 : -1 - last);
            be("age", child(0, 0), taken ? age : NOTHING);
            be("in a later line", children("4,1-;" + age + ",1-"), taken ? 2 : -1 - last - 5);
        }
        start("5 (age of 1 or 2 digits)");
        be("00", children("00,1-"), -2);
        be("03", children("03,1-"), -2);
        be("04", children("04,1-"), 1);
        be("it is 4", child(0, 0), 4);
        be("a third digit", children("100,1-"), -3);
        be("a third digit behind 0", children("004,1-"), -2);
        be("no digit", children(",1-"), -1);
    }

    private static void skills() {
        for (int s = 0; s < 256; s++) {
            start("5 (skill 1 .. 9: a digit, not 0)");
            boolean taken = s >= '1' && s <= '9';
            be("skill by sign " + s, children("7," + (char) s + "-"), taken ? 1 : -3);
            be("skill", child(0, 1), taken ? s - '0' : NOTHING);
        }
    }

    private static void friends() {
        for (int number = 0; number < 8; number++) {
            for (char s = 'Z'; s <= 'z'; s++) {
                start("5 (- or the letter of a child with a lesser number)");
                if (number > 0) {
                    children("7,1-" + times(";7,1-", number - 1));
                }
                boolean taken = s >= 'a' && s < 'a' + number;
                be("letter " + s + " for child " + number, children("7,1" + s), taken ? 1 : -4);
                be("friend", child(number, 2), taken ? s - 'a' : NOTHING);
            }
        }
        String others = otherSigns("-abcdefghijklmnopqrstuvwxyz");
        for (int i = 0; i < others.length(); i++) {
            start("5 (another sign for a friend)");
            be("sign " + (int) others.charAt(i), children("7,1-;7,1" + others.charAt(i)), -9);
        }
        start("5 (told ahead in the same text)");
        be("all of a", children("7,1-" + times(";7,1a", 7)), 8);
        be("the one is friend of many", child(7, 2), 0);
        start("5 (told ahead in the same text)");
        be("each of the one ahead", children("7,1-;7,1a;7,1b;7,1c;7,1d;7,1e;7,1f;7,1g"), 8);
        be("friend", child(7, 2), 6);
        start("5 (a letter of no child told ahead: at it)");
        be("the next one's", children("7,1-;7,1c;7,1-"), -9);
        be("one that came ahead", children("7,1-;7,1a"), 2);
        be("its own number, not its line's", children("7,1b"), 1);
        be("its own letter", children("7,1d"), -4);
    }

    private static void childrenFaults() {
        start("5 (its end, if it ends too early)");
        be("behind an age of one digit", children("7"), -2);
        be("behind an age of two digits", children("10"), -3);
        be("behind the comma", children("7,"), -3);
        be("behind skill", children("7,1"), -4);
        be("behind ;", children("7,1-;"), -6);
        be("behind a later age", children("7,1-;12"), -8);
        be("behind a later comma", children("7,1-;12,"), -9);
        be("behind a later skill", children("7,1-;12,1"), -10);
        start("5 (the sign at p can't stand there)");
        be("; first", children(";"), -1);
        be("- first", children("-7,1-"), -1);
        be("; for the comma", children("7;1-"), -2);
        be("no skill", children("7,-"), -3);
        be("no friend", children("7,1;"), -4);
        be("two friends", children("7,1--"), -5);
        be("a comma behind a line", children("7,1-,7,1-"), -5);
        be("two ;", children("7,1-;;7,1-"), -6);
        be("a space", children("7, 1-"), -3);
        be("a sign of 0 at the end", children("7,1-\u0000"), -5);
        String digits = "0123456789";
        String behindAge = otherSigns(digits + ",");
        for (int i = 0; i < behindAge.length(); i++) {
            if (i % 50 == 0) {
                x = new SandKeepsSea();
            }
            be("behind an age: sign " + (int) behindAge.charAt(i), children("7" + behindAge.charAt(i) + "1-"), -2);
        }
        String first = otherSigns(digits);
        for (int i = 0; i < first.length(); i++) {
            if (i % 50 == 0) {
                x = new SandKeepsSea();
            }
            be("first: sign " + (int) first.charAt(i), children(first.charAt(i) + ",1-"), -1);
        }
        String between = otherSigns(";");
        for (int i = 0; i < between.length(); i++) {
            if (i % 50 == 0) {
                x = new SandKeepsSea();
            }
            be("between two lines: sign " + (int) between.charAt(i), children("7,1-" + between.charAt(i) + "7,1-"), -5);
        }
        be("nobody came", x.count(1), 0);
    }

    private static void childrenRoom() {
        for (int had = 0; had <= 8; had++) {
            start("5 (at most 8: the first sign of a line for which there is no room)");
            if (had > 0) {
                be("come", children("7,1-" + times(";7,1-", had - 1)), had);
            }
            int room = 8 - had;
            String full = room == 0 ? "" : "7,1-" + times(";7,1-", room - 1);
            String more = room == 0 ? "" : full + ";";
            be("one too many", children(more + "7,1-"), -1 - more.length());
            be("one too many, its first sign is no digit", children(more + "x"), -1 - more.length());
            if (room > 0) {
                be("; where no line has room", children(more), -1 - more.length());
                be("another sign behind the last line", children(full + ","), -1 - full.length());
            }
            be("none came", x.count(1), had);
            be("as many as there is room for", children(full), room);
            be("eight", x.count(1), 8);
            be("no room", children("7,1-"), -1);
            be("an empty one needs no room", children(""), 0);
        }
    }

    private static void childrenLength() {
        start("5 (47, if it has more and the first 47 could go on or end)");
        be("47 signs", LONGEST.length(), 47);
        String signs = "0a,;-x\u0000";
        for (int i = 0; i < signs.length(); i++) {
            be("the first 47 could end, then " + (int) signs.charAt(i), children(LONGEST + signs.charAt(i)), -48);
        }
        String open = "10,1-" + times(";11,2a", 6) + ";011,2";
        be("47 signs that could go on", open.length(), 47);
        be("80 signs", children(LONGEST + times("x", 33)), -48);
        be("a fault at 46", children(LONGEST.substring(0, 46) + "x1"), -47);
        be("a fault at 45", children(LONGEST.substring(0, 45) + "xa1"), -46);
        be("a fault at 0 of 80", children("x" + LONGEST + times("1", 32)), -1);
        be("ends too early at 46", children(LONGEST.substring(0, 46)), -47);
        be("nobody came", x.count(1), 0);
        be("47 signs", children(LONGEST), 8);
        start("5 (47, where no line has room behind the first 47)");
        String seven = "4,1-" + times(";10,1-", 7);
        be("46 signs", seven.length(), 46);
        be("; at 46, more behind it", children(seven + ";1"), -48);
        be("; at 46", children(seven + ";"), -48);
        be("46 signs", children(seven), 8);
        start("5 (no room comes ahead of 47)");
        String six = "4,1-;4,1-" + times(";10,1-", 6);
        be("45 signs", six.length(), 45);
        be("a ninth line at 46", children(six + ";10,1-"), -47);
        be("a ninth line at 46, its age could go on", children(six + ";1"), -47);
    }

    private static void nothingOfItComes() {
        start("5 (nothing of it comes, if a line can't)");
        x.moat(0);
        x.rain(1, 1, 5);
        be("the third can't", children("7,9-;8,8a;3,1-"), -11);
        be("nobody", x.count(1), 0);
        be("no child", child(0, 0), NOTHING);
        be("acts stay", x.count(11), 1);
        rowIs(1, 2);
        be("then others", children("4,1-;5,2-"), 2);
        be("age", child(0, 0), 4);
        be("skill", child(1, 1), 2);
        be("no friend", child(1, 2), NONE);
        x.go(0, 0);
        x.go(1, 0);
        be("nobody has a friend beside", child(0, 6) * 10 + child(1, 6), 12);
        be("a friend of the first, refused", children("6,3a;6,3x"), -9);
        be("it is no friend", child(0, 6), 1);
        be("another", children("6,3-"), 1);
        x.go(2, 0);
        be("it is no friend", child(0, 6) * 10 + child(2, 6), 13);
        start("5 (those that come: mood 5, no spade, home; the others stay as they are)");
        children("7,4-");
        x.set(1, 8);
        x.spade(0);
        x.treat(0);
        x.go(0, 0);
        be("seven more", children("7,1-" + times(";7,1a", 6)), 7);
        be("moods", moodsTold(), 85555555);
        be("spades", x.count(5), 1);
        be("home", x.count(8), 254);
    }

    private static void childrenForget() {
        start("5, 20, 42 (children that come forget what can be undone; again() is refused)");
        children("7,4-");
        x.moat(0);
        yes("keep", x.keep(0));
        be("an empty one", children(""), 0);
        be("acts stay", x.count(11), 1);
        yes("kept stays", x.keep(1));
        be("refused", children("7,4"), -4);
        be("acts stay", x.count(11), 1);
        be("one comes", children("7,4-"), 1);
        be("acts", x.count(11), 0);
        be("undo", x.undo(), NONE);
        no("again(0)", x.again(0));
        no("again(1)", x.again(1));
        be("the moat is there", x.count(6), 1);
    }

    // ---- 6

    private static void ruleNumbers() {
        start("6 (a number of 1 to 3 digits)");
        be("one", levelBy("9"), 9);
        be("two", levelBy("98"), 98);
        be("three", levelBy("987"), 987);
        be("000", levelBy("000"), 0);
        be("009", levelBy("009"), 9);
        be("a fourth digit", rule("9876"), -4);
        be("a fourth digit behind 0", rule("0001"), -4);
        be("a fourth digit in ( )", rule("(1234)"), -5);
        be("a fourth digit behind +", rule("1+1234"), -6);
        be("a fourth digit behind -", rule("-1234"), -5);
        for (int d = 0; d <= 9; d++) {
            be("digit " + d, levelBy("" + d), d);
        }
    }

    private static void ruleSigns() {
        String thing = "0123456789nwcm(-";
        String others = otherSigns(thing);
        for (int i = 0; i < others.length(); i++) {
            if (i % 30 == 0) {
                start("6 (a sign that can't stand for a thing)");
            }
            String s = others.substring(i, i + 1);
            be("first: " + (int) s.charAt(0), rule(s), -1);
            be("behind +: " + (int) s.charAt(0), rule("1+" + s), -3);
            be("behind (: " + (int) s.charAt(0), rule("(" + s), -2);
        }
        others = otherSigns("0123456789+-*/<>=");
        for (int i = 0; i < others.length(); i++) {
            if (i % 30 == 0) {
                start("6 (a sign that can't stand behind a thing)");
            }
            String s = others.substring(i, i + 1);
            be("behind a number: " + (int) s.charAt(0), rule("1" + s), -2);
            be("behind a letter: " + (int) s.charAt(0), rule("n" + s), -2);
            be("behind ( ): " + (int) s.charAt(0), rule("(1)" + s), -4);
        }
        start("6 (a digit behind what is no number)");
        be("behind a letter", rule("n1"), -2);
        be("behind ( )", rule("(1)1"), -4);
        be("( behind a number", rule("1(1)"), -2);
        be("( behind ( )", rule("(1)(1)"), -4);
    }

    private static void ruleNesting() {
        start("6 (at most 4 in one another)");
        be("one", levelBy("(1)"), 1);
        be("four", levelBy("((((4))))"), 4);
        be("five: at the fifth", rule("(((((4)))))"), -5);
        be("five behind -", rule("-(-(-(-(-(4)))))"), -10);
        be("five behind +", rule("1+(1+(1+(1+(1+(1)))))"), -15);
        be("four twice", levelBy("((((1))))+((((2))))"), 3);
        be("many, not in one another", levelBy("(1)+(1)+(1)+(1)+(1)+(1)+(1)+(1)+(1)+(1)"), 10);
        be("four, then out and in", levelBy("((1)+(((2))))"), 3);
        be("three, out, three", levelBy("((((1))+((2))))"), 3);
        be("four, out, a fifth", rule("(((1+(1)+((1)))))"), -11);
        be("all that waits at each depth", levelBy("0<9+5*(0<9+5*(0<9+5*(0<9+5*(0<9+5*1))))"), 1);
        be("all that waits at each depth", levelBy("1+2*(1+2*(1+2*(1+2*(1+2*3))))"), 127);
        be("a ) too many", rule("((((4)))))"), -10);
        be("a ) too few", rule("((((4)))"), -9);
        be("()", rule("()"), -2);
    }

    private static void ruleComparisons() {
        start("6 (< > = : two; 1 or 0; not one behind the other)");
        String[] ops = {"<", ">", "="};
        for (String op : ops) {
            be("1 " + op + " 2", levelBy("1" + op + "2"), op.equals("<") ? 1 : 0);
            be("2 " + op + " 2", levelBy("2" + op + "2"), op.equals("=") ? 1 : 0);
            be("3 " + op + " 2", levelBy("3" + op + "2"), op.equals(">") ? 1 : 0);
            be("-1 " + op + " 0", levelBy("-1" + op + "0"), op.equals("<") ? 1 : 0);
            be("0 or 1, not less", levelBy("5+(1" + op + "2)"), op.equals("<") ? 6 : 5);
            be("0 or 1, not less", levelBy("5+(2" + op + "1)"), op.equals(">") ? 6 : 5);
            be("0 or 1, not less", levelBy("5+(2" + op + "2)"), op.equals("=") ? 6 : 5);
            be("one thing alone", rule(op + "1"), -1);
            be("one thing alone", rule("1" + op), -3);
            for (String other : ops) {
                be("one behind the other", rule("1" + op + "2" + other + "3"), -4);
                be("one at the other", rule("1" + op + other + "3"), -3);
                be("one behind the other in ( )", rule("(1" + op + "2" + other + "3)"), -5);
                be("one in the other's ( )", rule("(1" + op + "2)" + other + "(3" + op + "4)"), 0);
            }
        }
        be("behind a sum", rule("1+2<3+4>5"), -8);
    }

    private static void ruleBindings() {
        start("6 (what binds more)");
        be("< ahead of +", levelBy("1+2<2+2"), 1);
        be("= ahead of *", levelBy("6=2*3"), 1);
        be("> ahead of - ahead of a thing", levelBy("2>-3"), 1);
        be("+ ahead of *", levelBy("1+2*3"), 7);
        be("- ahead of /", levelBy("9-8/4"), 7);
        be("* and then +", levelBy("2*3+1"), 7);
        be("- binds a thing alone", levelBy("-2+3"), 1);
        be("- binds more than *", levelBy("-2*-3"), 6);
        be("- binds more than /: cut to 0", levelBy("10+-7/2"), 7);
        start("6 (from the left)");
        be("- -", levelBy("9-4-3"), 2);
        be("- +", levelBy("9-4+3"), 8);
        be("/ /", levelBy("100/5/2"), 10);
        be("/ *", levelBy("7/2*2"), 6);
        be("* /", levelBy("7*3/2"), 10);
        start("6 (- ahead of a thing, any many)");
        be("two", levelBy("--5"), 5);
        be("three", levelBy("9---5"), 4);
        be("ahead of (", levelBy("-(-5)"), 5);
        be("ahead of a letter", levelBy("9--c"), 10);
        be("39 and a thing", levelBy(times("-", 39) + "5"), 0);
        be("38 and a thing", levelBy(times("-", 38) + "5"), 5);
        be("37, and one that takes", levelBy("9" + times("-", 38) + "5"), 14);
        be("40 and no thing", rule(times("-", 40)), -41);
        be("behind *", levelBy("2*--5"), 10);
    }

    private static void ruleDivision() {
        start("6 (by 0: 0)");
        be("7/0", levelBy("5+7/0"), 5);
        be("0/0", levelBy("5+0/0"), 5);
        be("-7/0", levelBy("5+-7/0"), 5);
        be("by what comes to 0", levelBy("5+7/(3-3)"), 5);
        be("by n", levelBy("7/n"), 0);
        be("goes on with 0", levelBy("7/0*3+2"), 2);
        start("6 (cut to 0)");
        be("7/2", levelBy("7/2"), 3);
        be("-7/2", levelBy("10+-7/2"), 7);
        be("7/-2", levelBy("10+7/-2"), 7);
        be("-7/-2", levelBy("-7/-2"), 3);
        be("1/2", levelBy("10+1/2"), 10);
        be("-1/2", levelBy("10+-1/2"), 10);
    }

    private static void ruleWraps() {
        // 2 to the 31 is 512*512*512*16: as an int the least one.
        start("6 (as ints: sums and products wrap around)");
        be("the least", levelBy("512*512*512*16"), 0);
        be("the least less 1", levelBy("512*512*512*16-1"), 999);
        be("the most", levelBy("512*512*512*15+512*512*511+512*511+511"), 999);
        be("the most and 1", levelBy("512*512*512*15+512*512*511+512*511+512"), 0);
        be("- the least", levelBy("-(512*512*512*16)"), 0);
        be("the least by -1", levelBy("512*512*512*16/-1"), 0);
        be("the least times 2", levelBy("7+512*512*512*32"), 7);
        be("below the least", levelBy("-512*512*512*16-1"), 999);
        be("above by products", levelBy("999*999*999*3"), 0);
        be("compared as ints", levelBy("512*512*512*16<0"), 1);
        be("compared, not by what is between", levelBy("512*512*512*16-1>-1"), 1);
    }

    private static void ruleThings() {
        start("6 (n its number by 8, w, c, m)");
        shore("00000");
        x.set(0, 9);
        x.moat(1);
        x.moat(3);
        be("w", levelBy("w"), 9);
        be("c", levelBy("c"), 5);
        be("m", levelBy("m"), 2);
        be("all", levelBy("n*100+w*10+c+m"), 97);
        be("n", levelBy("n"), 0);
        for (int t = 0; t < 17; t++) {
            be("n of tide " + t, x.level(0), t % 8);
            x.tide();
        }
        be("m as it is", levelBy("m"), 0);
        String upper = "NWCM";
        for (int i = 0; i < 4; i++) {
            be("a great letter", rule(upper.substring(i, i + 1)), -1);
        }
    }

    private static void ruleLevel() {
        start("6 (put to 0 .. 999)");
        be("998", levelBy("998"), 998);
        be("999", levelBy("999"), 999);
        be("1000", levelBy("999+1"), 999);
        be("998001", levelBy("999*999"), 999);
        be("1", levelBy("1"), 1);
        be("0", levelBy("0"), 0);
        be("-1", levelBy("-1"), 0);
        be("-998001", levelBy("-999*999"), 0);
        be("not on the way", levelBy("999+999-999"), 999);
        be("not on the way", levelBy("5-9+5"), 1);
    }

    private static void ruleEnds() {
        start("6 (its end, if it ends too early)");
        String[] open = {"-", "1+", "1-", "1*", "1/", "1<", "1>", "1=", "(", "(1", "1+(", "(1)+", "((1)", "1--", "n*("};
        for (String t : open) {
            be("rule " + t, rule(t), -1 - t.length());
        }
        be("38 open signs", rule(times("1+", 19)), -39);
    }

    private static void ruleLength() {
        String forty = times("1+", 19) + "11";
        start("6 (40, if it has more and the first 40 could go on or end)");
        be("40 signs", forty.length(), 40);
        be("40 signs, each of them a thing or what joins them", levelBy("-" + times("1+", 19) + "1"), 18);
        be("40 signs, the last of them ahead of a thing", levelBy(times("1+", 19) + "-1"), 18);
        be("40 signs, what is last counts", levelBy("-" + times("1+", 19) + "9"), 26);
        be("40 signs", levelBy(forty), 30);
        String signs = "1+x)(\u0000";
        for (int i = 0; i < signs.length(); i++) {
            be("could end, then " + (int) signs.charAt(i), rule(forty + signs.charAt(i)), -41);
        }
        be("could go on, then what could end", rule(times("1+", 20) + "1"), -41);
        be("could go on, then what can't stand", rule(times("1+", 20) + "+"), -41);
        be("could go on in ( )", rule("(" + times("1+", 19) + "1)"), -41);
        be("a fourth digit at 40", rule(times("1+", 18) + "1*111" + "1"), -41);
        be("80 signs", rule(times("1+", 39) + "11"), -41);
        be("40 signs that end too early", rule(times("1+", 20)), -41);
        be("39 signs that end too early", rule("(" + times("1+", 18) + "11"), -40);
        be("a fault at 39 of 41", rule(times("1+", 19) + "1x1"), -40);
        be("a fault at 38 of 41", rule(times("1+", 19) + "x11"), -39);
        be("a fault at 0 of 80", rule("x" + times("1", 79)), -1);
        be("the rule stays", x.level(0), 30);
        be("41 signs of law()", law(forty + "1"), -10040);
        be("40 signs of law()", law(forty) > -100 ? 1 : 0, 1);
        be("a fault at 39 of 41 of law()", law(times("1+", 19) + "1x1"), -10039);
    }

    private static void ruleStays() {
        start("6 (refused: the rule stays; an empty one: none)");
        be("level", levelBy("42"), 42);
        be("refused", rule("1+"), -3);
        be("42", x.level(0), 42);
        be("refused", rule("("), -2);
        be("42", x.level(0), 42);
        be("law() is another", law("7"), 0);
        be("42", x.level(0), 42);
        be("law() that is refused", law("7+"), -10002);
        be("42", x.level(0), 42);
        be("empty", levelBy(""), 30);
        be("refused", rule("x"), -1);
        be("none stays none", x.level(0), 30);
    }
}
