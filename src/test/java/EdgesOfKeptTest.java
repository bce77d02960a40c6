/** Boundary cases of promises 41 to 44, a method for each sentence of the document that names some. */
public final class EdgesOfKeptTest extends Bench {
    public static void main(String[] args) {
        keepNumbers();
        keepAnew();
        againGivesBack();
        againLeaves();
        againRefused();
        againWithoutChildren();
        countsAtFirst();
        countsAtMost();
        countsOfThree();
        countsOfOthers();
        rowNumbers();
        rowToldLast();
        rowLongest();
        calls512();
        due.end();
    }

    // ---- 41

    private static void keepNumbers() {
        start("41 (under a number 0 .. 2: true; refused: others)");
        for (int i : new int[] {MIN, -1, 3, 4, MAX}) {
            no("keep(" + i + ")", x.keep(i));
            no("again(" + i + ")", x.again(i));
        }
        for (int i = 0; i < 3; i++) {
            no("again(" + i + "), nothing kept", x.again(i));
        }
        for (int i = 0; i < 3; i++) {
            yes("keep(" + i + ")", x.keep(i));
            x.tide();
        }
        for (int i = 2; i >= 0; i--) {
            yes("again(" + i + ")", x.again(i));
            be("each by itself", x.count(2), i);
        }
        for (int i : new int[] {MIN, -1, 3, 4, MAX}) {
            no("again(" + i + ")", x.again(i));
        }
    }

    private static void keepAnew() {
        start("41 (kept anew under the same number)");
        x.keep(0);
        x.tide();
        yes("keep", x.keep(0));
        x.tide();
        yes("again", x.again(0));
        be("as it was last", x.count(2), 1);
        x.tide();
        x.tide();
        yes("as often as one likes", x.again(0));
        be("as it was last", x.count(2), 1);
        no("what is kept under another number is not", x.again(1));
        start("41 (it is no act)");
        x.moat(0);
        x.rain(1, 1, 5);
        x.keep(0);
        be("acts", x.count(11), 1);
        rowIs(1, 2);
    }

    // ---- 42

    private static void againGivesBack() {
        start("42 (walls, moats, depths, moods, spades, where children are, tide)");
        shore("00");
        children("7,4-;7,6-");
        x.sheet(2, 2, 5, 1);
        x.go(0, 1);
        x.build(1);
        x.spade(1);
        rule("3");
        x.tide();
        x.moat(0);
        yes("keep", x.keep(1));
        x.sheet(2, 2, 9, 0);
        x.go(1, 0);
        x.home(0);
        x.spade(1);
        x.spade(0);
        x.build(1);
        x.moat(0);
        x.moat(1);
        x.pump(1);
        rule("30");
        x.tide();
        yes("again", x.again(1));
        be("walls", cell(0, 1) * 100 + cell(1, 1), 4);
        be("moats", x.count(6), 1);
        be("depths", cell(0, 3) * 100 + cell(1, 3), 302);
        be("moods", moodsTold(), 46);
        be("spades", x.count(5), 2);
        be("where children are", child(0, 5) * 10 + child(1, 5), 9);
        be("tide", x.count(2), 1);
        be("nothing can be undone", x.undo(), NONE);
    }

    private static void againLeaves() {
        start("42 (what is not kept stays as it is)");
        children("7,4-");
        x.keep(0);
        x.set(0, 7);
        x.set(1, 5);
        rule("42");
        x.seen(0, 4);
        x.rain(1, 1, 5);
        x.sign(0x31313131);
        yes("again", x.again(0));
        be("wind", x.count(3), 7);
        be("spades", x.count(4), 5);
        be("seen", x.count(10), 1);
        be("signs", x.count(13), 4);
        rowIs(1, 2);
        be("the rule", x.level(0), 42);
        start("42 (spades had may be more than there are)");
        children("7,4-;7,4-");
        x.spade(0);
        x.spade(1);
        x.keep(0);
        x.spade(0);
        x.spade(1);
        x.set(1, 1);
        yes("again", x.again(0));
        be("two are had", x.count(5), 3);
        be("of one", x.count(4), 1);
        be("gives back", x.spade(0), 1);
        be("all are had", x.spade(0), -2);
    }

    private static void againRefused() {
        start("42 (refused: children came since)");
        children("7,4-");
        for (int i = 0; i < 3; i++) {
            x.keep(i);
        }
        be("none came", children(""), 0);
        be("none came", children("7"), -2);
        yes("again", x.again(0));
        be("one came", children("7,4-"), 1);
        x.moat(0);
        x.rain(1, 1, 5);
        for (int i = 0; i < 3; i++) {
            no("again(" + i + ")", x.again(i));
        }
        be("nothing changed", x.count(6), 1);
        be("acts stay", x.count(11), 1);
        rowIs(1, 2);
        yes("kept anew", x.keep(1));
        x.moat(0);
        yes("again", x.again(1));
        be("moats", x.count(6), 1);
        no("the others are not", x.again(0));
        no("the others are not", x.again(2));
        start("42 (refused: nothing kept, since shore())");
        x.keep(0);
        x.keep(1);
        x.keep(2);
        shore("x");
        yes("shore() was refused", x.again(0));
        shore("0");
        for (int i = 0; i < 3; i++) {
            no("again(" + i + ")", x.again(i));
        }
    }

    private static void againWithoutChildren() {
        start("42 (kept without children)");
        x.moat(0);
        x.keep(0);
        x.moat(0);
        yes("again", x.again(0));
        be("moats", x.count(6), 1);
        children("7,4-");
        no("children came", x.again(0));
        start("42 (nothing kept, without children)");
        shore("00");
        no("again(0)", x.again(0));
        no("again(1)", x.again(1));
        no("again(2)", x.again(2));
    }

    // ---- 43

    private static void countsAtFirst() {
        start("43 (-100 for another what)");
        for (int what : new int[] {MIN, -101, -100, -2, -1, 14, 15, 100, MAX}) {
            be("count(" + what + ")", x.count(what), -100);
        }
        int[] want = {1, 0, 0, 0, 2, 0, 0, 0, 0, 0, 0, 0, 0, 0};
        for (int what = 0; what <= 13; what++) {
            be("count(" + what + ")", x.count(what), want[what]);
        }
    }

    private static void countsAtMost() {
        start("43 (all full)");
        shore(TWELVE);
        be("children", children(EIGHT), 8);
        x.set(0, 9);
        x.set(1, 8);
        rule("999");
        x.tide();
        for (int i = 0; i < 8; i++) {
            x.spade(i);
        }
        for (int c = 0; c < 12; c++) {
            x.moat(c);
        }
        for (int c = 8; c < 12; c++) {
            x.seen(c, 99);
        }
        x.work(0);
        for (int i = 0; i < 20; i++) {
            x.sign(0);
        }
        int[] want = {12, 8, 1, 9, 8, 255, 4095, 4095, 255, 0, 3840, 15, 12, 80};
        for (int what = 0; what <= 13; what++) {
            be("count(" + what + ")", x.count(what), want[what]);
        }
        start("43 (walls together)");
        shore("00");
        children(BUILDERS);
        wall(0, 0, 999);
        wall(1, 0, 999);
        be("two of 999", x.count(9), 1998);
        start("43 (tides go on)");
        for (int i = 1; i <= 25; i++) {
            summer(times("w", 60));
        }
        be("1500", x.count(2), 1500);
    }

    private static void countsOfThree() {
        start("43 (bits)");
        shore("909");
        children("7,4-;7,4-;7,4-");
        x.spade(1);
        x.moat(0);
        x.moat(2);
        x.go(2, 1);
        x.seen(2, 5);
        rule("1");
        x.tide();
        be("who has a spade", x.count(5), 2);
        be("moats", x.count(6), 5);
        be("water", x.count(7), 2);
        be("home", x.count(8), 3);
        be("seen", x.count(10), 4);
        x.home(2);
        be("all home", x.count(8), 7);
        x.pump(1);
        be("dry", x.count(7), 0);
    }

    private static void countsOfOthers() {
        start("43 (what can be undone, numbers of the row, signs of the text)");
        x.moat(0);
        be("one", x.count(11), 1);
        x.undo();
        be("none", x.count(11), 0);
        be("no row", x.count(12), 0);
        x.level(0);
        be("one", x.count(12), 1);
        x.holds();
        be("two", x.count(12), 2);
        x.ways();
        be("none", x.count(12), 0);
        x.sign(0);
        be("four", x.count(13), 4);
        x.end(3);
        be("three", x.count(13), 3);
        x.rule();
        be("none", x.count(13), 0);
    }

    // ---- 44

    private static void rowNumbers() {
        start("44 (none such)");
        for (int i : new int[] {MIN, -1, 0, 1, 11, 12, 13, MAX}) {
            be("row(" + i + ") of nothing", row(i), NOTHING);
        }
        x.level(0);
        be("row(0)", row(0), 1);
        for (int i : new int[] {MIN, -1, 1, 2, 11, 12, 13, MAX}) {
            be("row(" + i + ") of one", row(i), NOTHING);
        }
        x.rain(12, 12, 1);
        be("row(1) is more than an int", row(1), 1000000000000L);
        be("row(2)", row(2), NOTHING);
        x.level(0);
        be("what was told ahead is gone", row(1), NOTHING);
    }

    private static void rowToldLast() {
        start("44 (told last by a call that says so)");
        shore("00");
        children("7,4-");
        x.go(0, 0);
        x.rain(1, 1, 5);
        x.set(0, 1);
        x.sheet(2, 1, 5, 0);
        x.go(0, 1);
        x.home(0);
        x.spade(0);
        x.treat(0);
        x.moat(0);
        x.pump(1);
        x.undo();
        x.spells();
        x.seen(0, 4);
        x.forget();
        x.keep(0);
        x.again(0);
        shore("00");
        children("7,4-");
        rule("0");
        be("spells() that is answered tells none", x.spells(), 0);
        rule("5");
        rowIs(1, 2);
        x.build(0);
        rowIs(0);
        x.tide();
        rowIs(5, 10);
        summer("b1");
        rowIs(0, 2);
        x.level(0);
        rowIs(3);
        x.holds();
        rowIs(3, 5);
        x.tides(0);
        rowIs(2, 10);
        x.floods(0, 1);
        rowIs(1, 1);
        x.raise(0, 1);
        rowIs(0);
        x.crew(3, 9);
        rowIs(0, 1);
        x.post(0, 1);
        rowIs(1000 - 5);
        x.moats(2);
        rowIs(3);
        x.spades();
        rowIs(0);
        x.treats(1);
        rowIs(0, 0);
        x.work(1);
        rowIs(0, 0);
        law("0");
        rowIs(0, 20);
        x.ways();
        rowIs(NONE, NONE);
        x.was(0);
        rowIs(1);
        x.rests(1, 9);
        rowIs(0, 0);
        x.summers(0, 1);
        rowIs(2, 2);
    }

    private static void rowLongest() {
        start("44 (as many as cells, as many as children)");
        shore(TWELVE);
        children(EIGHT);
        x.work(0);
        rowIs(0, 0, 0, 0, 0, 0, 0, 0, 0, 0, 0, 0);
        x.treats(1);
        rowIs(0, 0, 0, 0, 0, 0, 0, 0);
        rule("0");
        x.crew(0, 1);
        rowIs(NONE, NONE, NONE, NONE, NONE, NONE, NONE, NONE);
    }

    private static void calls512() {
        start("1 to 44 (an object is used for 512 calls)");
        for (int i = 0; i < 500; i++) {
            x.tide();
        }
        be("the 501st", x.count(2), 500);
        be("the 502nd", x.count(11), 15);
        be("the 503rd", x.undo(), 14);
        be("the 504th", x.tide(), 1);
        be("the 505th", row(0), 30 + 5 * (499 % 8));
        be("the 506th", row(1), 0);
        be("the 507th", x.count(2), 500);
        be("the 508th", x.sign(0x31313131), 4);
        be("the 509th", x.shore(), 4);
        be("the 510th", x.count(2), 0);
        be("the 511th", x.holds(), 1);
        be("the 512th", row(1), 30);
    }
}
