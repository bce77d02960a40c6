import java.util.function.Consumer;
import java.util.function.Function;
import java.util.function.ToLongFunction;

/**
 * Refused calls change nothing but THE TEXT, and questions nothing but the ROW: each is made on one of two objects that
 * were filled alike; then all that can be asked of both, acts undone, what was kept taken again, is compared.
 */
public final class UnchangedTest extends Bench {
    private static final String PENDING = "41+n";
    private static final int[] OFF = {MIN, -1, MAX};

    public static void main(String[] args) {
        fullEnough();
        texts();
        settings();
        acts();
        questionsRefused();
        memory();
        badTexts();
        questions();
        asked();
        due.end();
    }

    /** Five CELLS, four CHILDREN (c in mood 0), all SPADES had, four CELLS seen, two kept, 15 acts, a ROW, a text. */
    private static SandKeepsSea filled() {
        SandKeepsSea s = new SandKeepsSea();
        writeTo(s, "1|2003|90");
        s.shore();
        writeTo(s, "7,4-;9,6a;13,8-;5,9b");
        s.children();
        writeTo(s, "12+n*3+w");
        s.rule();
        s.set(0, 3);
        for (int c = 0; c < 5; c++) {
            s.moat(c);
            s.go(1, c);
        }
        s.go(0, 1);
        s.home(1);
        s.keep(0);
        s.spade(0);
        s.go(3, 4);
        s.build(2);
        s.keep(2);
        s.sheet(2, 4, 9, -3);
        s.treat(1);
        s.sheet(2, 4, 4, -2);
        s.moat(2);
        s.moat(3);
        s.tide();
        s.spade(3);
        s.pump(2);
        for (int c = 0; c < 4; c++) {
            s.seen(c, 3 * c);
        }
        s.rain(7, 3, 4);
        writeTo(s, PENDING);
        return s;
    }

    /** Where nothing stands, nothing could be seen to change. */
    private static void fullEnough() {
        SandKeepsSea s = filled();
        int[] whats = {2, 3, 5, 6, 7, 8, 9, 10, 12, 13};
        for (int what : whats) {
            due.be("count(" + what + ") of the filled object is above 0", s.count(what) > 0, true);
        }
        due.be("acts of the filled object", s.count(11), 15);
    }

    // ---- comparing

    /** All that can be asked without going on. */
    private static String shown(SandKeepsSea s, boolean withRow) {
        StringBuilder all = new StringBuilder();
        for (int what = 0; what <= 13; what++) {
            if (what != 12 || withRow) {
                all.append(" count ").append(what).append(": ").append(s.count(what));
            }
        }
        for (int i = 0; i < 6; i++) {
            for (int what = 0; what <= 6; what++) {
                all.append(' ').append(cellOf(s, i, what)).append('/').append(childOf(s, i, what));
            }
        }
        for (int i = 0; withRow && i <= s.count(12); i++) {
            all.append(" row ").append(rowOf(s, i));
        }
        return all.toString();
    }

    /** THE RULE, THE TEXT as another, what was seen. */
    private static String lawAndSights(SandKeepsSea s) {
        StringBuilder all = new StringBuilder();
        all.append(s.level(1)).append(' ').append(s.rule()).append(' ').append(s.level(1)).append(' ').append(s.ways());
        for (int i = 0; i < 4; i++) {
            all.append(' ').append(s.was(i));
        }
        return all.toString();
    }

    private static String acted(SandKeepsSea s) {
        StringBuilder all = new StringBuilder();
        int[] whats = {2, 5, 6, 8, 9};
        for (int left = s.count(11); left >= 0;) {
            left = s.undo();
            all.append("; undo ").append(left);
            for (int what : whats) {
                all.append(' ').append(s.count(what));
            }
            for (int i = 0; i < 5; i++) {
                all.append(' ').append(cellOf(s, i, 3)).append('/').append(childOf(s, i, 3)).append('/').append(childOf(s, i, 5));
            }
        }
        return all.toString();
    }

    private static String kept(SandKeepsSea s) {
        StringBuilder all = new StringBuilder();
        for (int i = 0; i < 3; i++) {
            all.append("; again ").append(s.again(i)).append(shown(s, false));
        }
        return all.toString();
    }

    /** Each answer is asked of new objects, so that none is used for more than 512 calls. */
    private static void same(String what, Consumer<SandKeepsSea> call, Consumer<SandKeepsSea> other, boolean withRow) {
        due.be(what + ": what is shown", told(call, s -> shown(s, withRow)), told(other, s -> shown(s, withRow)));
        due.be(what + ": rule, text, sights", told(call, s -> lawAndSights(s)), told(other, s -> lawAndSights(s)));
        due.be(what + ": what can be undone", told(call, s -> acted(s)), told(other, s -> acted(s)));
        due.be(what + ": what is kept", told(call, s -> kept(s)), told(other, s -> kept(s)));
    }

    private static String told(Consumer<SandKeepsSea> call, Function<SandKeepsSea, String> ask) {
        SandKeepsSea s = filled();
        call.accept(s);
        return ask.apply(s);
    }

    private static void refused(String name, ToLongFunction<SandKeepsSea> call, long want) {
        due.be("promise " + name, call.applyAsLong(filled()), want);
        same("promise " + name, s -> call.applyAsLong(s), s -> { }, true);
    }

    private static void question(String name, ToLongFunction<SandKeepsSea> call) {
        due.be("promise " + name + " is answered", call.applyAsLong(filled()) != NONE, true);
        same("promise " + name, s -> call.applyAsLong(s), s -> { }, false);
    }

    // ---- refused calls

    private static void texts() {
        refused("2: sign, 81 signs", s -> signTooMany(s), NONE);
        refused("3: end(5)", s -> s.end(5) ? 1 : 0, 0);
        refused("3: end(-1)", s -> s.end(-1) ? 1 : 0, 0);
    }

    /** 80 signs, one refused, then the text as it was. */
    private static long signTooMany(SandKeepsSea s) {
        writeTo(s, PENDING + "x".repeat(76));
        long answer = s.sign(0x31313131);
        due.be("promise 2: 80 signs", s.count(13), 80);
        s.end(4);
        return answer;
    }

    private static void settings() {
        refused("9: set(0, 10)", s -> s.set(0, 10), NONE);
        refused("9: set(0, -1)", s -> s.set(0, -1), NONE);
        refused("9: set(1, 9)", s -> s.set(1, 9), NONE);
        refused("9: set(1, 1), two are had", s -> s.set(1, 1), NONE);
        refused("9: set(1, -1)", s -> s.set(1, -1), NONE);
        refused("9: set(2, 0)", s -> s.set(2, 0), NONE);
        refused("9: set(-1, 0)", s -> s.set(-1, 0), NONE);
        refused("10: sheet(4, 1, 1, 1)", s -> s.sheet(4, 1, 1, 1), NONE);
        refused("10: sheet(-1, 1, 1, 1)", s -> s.sheet(-1, 1, 1, 1), NONE);
        for (int kind = 0; kind <= 3; kind++) {
            int k = kind;
            refused("10: sheet(" + kind + ", 9, 1, 1)", s -> s.sheet(k, 9, 1, 1), NONE);
        }
        for (int kind = 0; kind <= 2; kind++) {
            int k = kind;
            refused("10: sheet(" + kind + ", -1, 1, 1)", s -> s.sheet(k, -1, 1, 1), -2);
        }
    }

    private static void acts() {
        refused("11: go(4, 0)", s -> s.go(4, 0), NONE);
        refused("11: go(0, 5)", s -> s.go(0, 5), NONE);
        refused("11: go(2, 0), mood 0", s -> s.go(2, 0), -2);
        refused("11: go(0, 1), there already", s -> s.go(0, 1), -3);
        refused("12: home(4)", s -> s.home(4), NONE);
        refused("12: home(1), it is", s -> s.home(1), -2);
        refused("13: spade(4)", s -> s.spade(4), NONE);
        refused("13: spade(1), all are had", s -> s.spade(1), -2);
        refused("14: treat(4)", s -> s.treat(4), NONE);
        refused("15: moat(5)", s -> s.moat(5), NONE);
        refused("16: build(31)", s -> s.build(31), NONE);
        refused("18: pump(0)", s -> s.pump(0), NONE);
        refused("18: pump(100)", s -> s.pump(100), NONE);
        for (int off : OFF) {
            refused("11: go(" + off + ", 0)", s -> s.go(off, 0), NONE);
            refused("11: go(0, " + off + ")", s -> s.go(0, off), NONE);
            refused("12: home(" + off + ")", s -> s.home(off), NONE);
            refused("13: spade(" + off + ")", s -> s.spade(off), NONE);
            refused("14: treat(" + off + ")", s -> s.treat(off), NONE);
            refused("15: moat(" + off + ")", s -> s.moat(off), NONE);
            refused("16: build(" + off + ")", s -> s.build(off), NONE);
            refused("18: pump(" + off + ")", s -> s.pump(off), NONE);
        }
    }

    private static void questionsRefused() {
        refused("21: level(100)", s -> s.level(100), NONE);
        refused("23: tides(61)", s -> s.tides(61), NONE);
        refused("25: floods(5, 1)", s -> s.floods(5, 1), NONE);
        refused("25: floods(0, 0)", s -> s.floods(0, 0), NONE);
        refused("25: floods(0, 1000)", s -> s.floods(0, 1000), NONE);
        refused("26: raise(5, 1)", s -> s.raise(5, 1), NONE);
        refused("26: raise(0, 0)", s -> s.raise(0, 0), NONE);
        refused("26: raise(0, 1000)", s -> s.raise(0, 1000), NONE);
        refused("27: crew(16, 1)", s -> s.crew(16, 1), NONE);
        refused("27: crew(1, 0)", s -> s.crew(1, 0), NONE);
        refused("27: crew(1, 10)", s -> s.crew(1, 10), NONE);
        refused("28: post(4, 1)", s -> s.post(4, 1), NONE);
        refused("28: post(0, 0)", s -> s.post(0, 0), NONE);
        refused("28: post(0, 10)", s -> s.post(0, 10), NONE);
        refused("29: moats(5)", s -> s.moats(5), NONE);
        refused("31: treats(0)", s -> s.treats(0), NONE);
        refused("31: treats(10)", s -> s.treats(10), NONE);
        refused("32: work(31)", s -> s.work(31), NONE);
        refused("37: was(4)", s -> s.was(4), NONE);
        refused("38: rain(13, 1, 1)", s -> s.rain(13, 1, 1), NONE);
        refused("38: rain(1, 13, 1)", s -> s.rain(1, 13, 1), NONE);
        refused("38: rain(1, 1, 11)", s -> s.rain(1, 1, 11), NONE);
        refused("39: rests(100, 1)", s -> s.rests(100, 1), NONE);
        refused("39: rests(0, 1)", s -> s.rests(0, 1), NONE);
        refused("39: rests(1, 10)", s -> s.rests(1, 10), NONE);
        refused("40: summers(1, 0)", s -> s.summers(1, 0), NONE);
        refused("40: summers(1, 61)", s -> s.summers(1, 61), NONE);
        // These answer something else than NONE: nothing is told, so the ROW stays.
        refused("26: raise(0, 11)", s -> s.raise(0, 11), -2);
        refused("27: crew(4, 9)", s -> s.crew(4, 9), -2);
        refused("28: post(2, 1)", s -> s.post(2, 1), -2);
        refused("31: treats(9)", s -> s.treats(9), -2);
        for (int off : OFF) {
            refused("21: level(" + off + ")", s -> s.level(off), NONE);
            refused("23: tides(" + off + ")", s -> s.tides(off), NONE);
            refused("25: floods(" + off + ", 1)", s -> s.floods(off, 1), NONE);
            refused("26: raise(" + off + ", 1)", s -> s.raise(off, 1), NONE);
            refused("27: crew(" + off + ", 1)", s -> s.crew(off, 1), NONE);
            refused("27: crew(1, " + off + ")", s -> s.crew(1, off), NONE);
            refused("28: post(" + off + ", 1)", s -> s.post(off, 1), NONE);
            refused("28: post(0, " + off + ")", s -> s.post(0, off), NONE);
            refused("29: moats(" + off + ")", s -> s.moats(off), NONE);
            refused("31: treats(" + off + ")", s -> s.treats(off), NONE);
            refused("32: work(" + off + ")", s -> s.work(off), NONE);
            refused("37: was(" + off + ")", s -> s.was(off), NONE);
            refused("40: summers(1, " + off + ")", s -> s.summers(1, off), NONE);
        }
    }

    private static void memory() {
        refused("34: seen(4, 1), a fifth", s -> s.seen(4, 1), NONE);
        refused("34: seen(5, 1)", s -> s.seen(5, 1), NONE);
        refused("34: seen(-1, 1)", s -> s.seen(-1, 1), NONE);
        refused("34: seen(0, 100)", s -> s.seen(0, 100), NONE);
        refused("34: seen(0, -1)", s -> s.seen(0, -1), NONE);
        refused("41: keep(3)", s -> s.keep(3) ? 1 : 0, 0);
        refused("41: keep(-1)", s -> s.keep(-1) ? 1 : 0, 0);
        refused("42: again(1), nothing kept", s -> s.again(1) ? 1 : 0, 0);
        refused("42: again(3)", s -> s.again(3) ? 1 : 0, 0);
        refused("42: again(-1)", s -> s.again(-1) ? 1 : 0, 0);
    }

    /** A call that reads THE TEXT empties it, also when it is refused. */
    private static void badText(String name, String t, ToLongFunction<SandKeepsSea> call, long want) {
        SandKeepsSea first = filled();
        writeTo(first, t);
        due.be("promise " + name + " of " + t, call.applyAsLong(first), want);
        same("promise " + name + " of " + t, s -> {
            writeTo(s, t);
            call.applyAsLong(s);
        }, s -> s.end(0), true);
    }

    private static void badTexts() {
        badText("4: shore()", "", SandKeepsSea::shore, -1);
        badText("4: shore()", "12|3", SandKeepsSea::shore, -5);
        badText("4: shore()", "1234567890123", SandKeepsSea::shore, -13);
        badText("5: children()", "x", SandKeepsSea::children, -1);
        badText("5: children()", "5,5a;6,6b;3,1-", SandKeepsSea::children, -11);
        badText("5: children()", "5,5a;6,6b;7,7c;8,8d;9,9-", SandKeepsSea::children, -21);
        badText("6: rule()", "1+", SandKeepsSea::rule, -3);
        badText("6: rule()", "n*5)", SandKeepsSea::rule, -4);
        badText("19: summer()", "wwb", SandKeepsSea::summer, -4);
        badText("19: summer()", "hagaax", SandKeepsSea::summer, -6);
        badText("33: law()", "1+", SandKeepsSea::law, -10002);
        badText("33: law()", "n*5)", SandKeepsSea::law, -10003);
    }

    // ---- questions

    private static void questions() {
        question("21: level(99)", s -> s.level(99));
        question("22: holds()", SandKeepsSea::holds);
        question("23: tides(60)", s -> s.tides(60));
        question("24: spells()", SandKeepsSea::spells);
        question("25: floods(2, 999)", s -> s.floods(2, 999));
        question("26: raise(2, 9)", s -> s.raise(2, 9));
        question("27: crew(11, 3)", s -> s.crew(11, 3));
        question("28: post(1, 9)", s -> s.post(1, 9));
        question("29: moats(4)", s -> s.moats(4));
        question("30: spades()", SandKeepsSea::spades);
        question("31: treats(5)", s -> s.treats(5));
        question("32: work(30)", s -> s.work(30));
        question("36: ways()", SandKeepsSea::ways);
        question("37: was(1)", s -> s.was(1));
        question("38: rain(12, 3, 4)", s -> s.rain(12, 3, 4));
        question("39: rests(40, 5)", s -> s.rests(40, 5));
        for (int seed = 0; seed < 20; seed++) {
            int from = seed;
            question("40: summers(" + seed + ", 60)", s -> s.summers(from, 60));
        }
        same("promise 33: law()", s -> {
            writeTo(s, "99*n");
            due.be("promise 33: law() is answered", s.law() > -100, true);
        }, s -> s.end(0), false);
    }

    private static void asked() {
        question("7: cell(), taken and thrown", s -> cellOf(s, 0, 6) + cellOf(s, 5, 0) * 0 + cellOf(s, 0, 7) * 0);
        question("8: child(), taken and thrown", s -> childOf(s, 0, 6) + childOf(s, 4, 0) * 0 + childOf(s, 0, 7) * 0);
        refused("44: row(2)", s -> rowOf(s, 2), NOTHING);
        refused("44: row(-1)", s -> rowOf(s, -1), NOTHING);
        refused("43: count(14)", s -> s.count(14), -100);
        refused("43: count(-1)", s -> s.count(-1), -100);
    }
}
