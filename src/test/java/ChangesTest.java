import java.util.EnumSet;
import java.util.Set;
import java.util.function.Consumer;

/**
 * Each call that is done changes what the document says, and nothing else: it is made on one of two objects that were
 * filled alike, and all that it must leave alone is compared, each part on objects of its own. (UnchangedTest does so for
 * refused calls and questions.)
 */
public final class ChangesTest extends Bench {
    private static final String PENDING = "41+n";

    /** What an object holds, a part each. */
    private enum Part {
        SHORE, CHILDREN, WALLS, MOATS, DEPTHS, MOODS, HAD, PLACES, TIDE, WIND, SPADES, RULE, TEXT, ROW, SEEN, UNDO, KEPT
    }

    /** What undo() and again() give back. */
    private static final Set<Part> STATE = EnumSet.range(Part.WALLS, Part.TIDE);

    public static void main(String[] args) {
        texts();
        readTexts();
        settings();
        acts();
        sights();
        kept();
        due.end();
    }

    /** Three CELLS with WALLS, MOATS and water, three CHILDREN, all SPADES had, two CELLS seen, two kept, a ROW, a text. */
    private static SandKeepsSea filled() {
        SandKeepsSea s = new SandKeepsSea();
        writeTo(s, "1|20|30");
        s.shore();
        writeTo(s, "7,4-;9,6a;5,9b");
        s.children();
        writeTo(s, "12+n*3+w");
        s.rule();
        s.set(0, 3);
        s.go(0, 0);
        s.go(1, 1);
        s.spade(0);
        s.keep(0);
        s.build(2);
        s.tide();
        s.moat(0);
        s.moat(2);
        s.keep(2);
        s.spade(2);
        s.tide();
        s.treat(2);
        s.go(1, 2);
        s.moat(2);
        s.seen(0, 4);
        s.seen(2, 9);
        s.rain(7, 3, 4);
        writeTo(s, PENDING);
        return s;
    }

    private static String told(SandKeepsSea s, Part part) {
        StringBuilder all = new StringBuilder();
        switch (part) {
            case SHORE: return ofCells(s, 0) + ofCells(s, 4);
            case CHILDREN: return ofChildren(s, 0) + ofChildren(s, 1) + ofChildren(s, 2);
            case WALLS: return ofCells(s, 1);
            case MOATS: return ofCells(s, 2);
            case DEPTHS: return ofCells(s, 3);
            case MOODS: return ofChildren(s, 3);
            case HAD: return ofChildren(s, 4);
            case PLACES: return ofChildren(s, 5);
            case TIDE: return "" + s.count(2);
            case WIND: return "" + s.count(3);
            case SPADES: return "" + s.count(4);
            case RULE: return byTides(s);
            case TEXT: return s.count(13) + " " + s.rule() + byTides(s);
            case ROW:
                for (int i = 0; i <= 12; i++) {
                    all.append(' ').append(rowOf(s, i));
                }
                return all.toString();
            case SEEN: return s.count(10) + " " + s.ways() + " " + s.was(0) + s.was(1) + s.was(2);
            case UNDO:
                all.append(s.count(11));
                for (int left = s.undo(); left >= 0; left = s.undo()) {
                    all.append("; ").append(left).append(stateOf(s));
                }
                return all.toString();
            default:
                for (int i = 0; i < 3; i++) {
                    all.append("; ").append(s.again(i) ? stateOf(s) : "nothing");
                }
                return all.toString();
        }
    }

    private static String ofCells(SandKeepsSea s, int what) {
        StringBuilder all = new StringBuilder();
        int many = s.count(0);
        for (int c = 0; c <= many; c++) {
            all.append(' ').append(cellOf(s, c, what));
        }
        return all.toString();
    }

    private static String ofChildren(SandKeepsSea s, int what) {
        StringBuilder all = new StringBuilder();
        int many = s.count(1);
        for (int c = 0; c <= many; c++) {
            all.append(' ').append(childOf(s, c, what));
        }
        return all.toString();
    }

    private static String stateOf(SandKeepsSea s) {
        return " " + s.count(2) + " " + s.count(5) + " " + s.count(6) + ofCells(s, 1) + ofCells(s, 3) + ofChildren(s, 3) + ofChildren(s, 5);
    }

    /** LEVELS of the TIDES with numbers 0 .. 7 by 8, without WIND: the same wherever TIDE and WIND are. */
    private static String byTides(SandKeepsSea s) {
        s.set(0, 0);
        StringBuilder all = new StringBuilder();
        for (int n = 0; n < 8; n++) {
            all.append(' ').append(s.level(Math.floorMod(n - s.count(2), 8)));
        }
        return all.toString();
    }

    /** All parts but these are as they were; each of these is another. */
    private static void only(String name, Consumer<SandKeepsSea> call, Set<Part> parts) {
        for (Part part : Part.values()) {
            SandKeepsSea before = filled();
            SandKeepsSea behind = filled();
            call.accept(behind);
            String was = told(before, part);
            String is = told(behind, part);
            if (parts.contains(part)) {
                due.be("promise " + name + ": " + part + " changes", is.equals(was), false);
            } else {
                due.be("promise " + name + ": " + part, is, was);
            }
        }
    }

    /** THE TEXT, which was another, is empty then. */
    private static void read(String name, String text, Consumer<SandKeepsSea> call, Set<Part> parts) {
        EnumSet<Part> with = EnumSet.of(Part.TEXT);
        with.addAll(parts);
        only(name, s -> {
            writeTo(s, text);
            call.accept(s);
        }, with);
    }

    /** An act is one more that can be undone. */
    private static void act(String name, Consumer<SandKeepsSea> call, Set<Part> parts) {
        EnumSet<Part> with = EnumSet.of(Part.UNDO);
        with.addAll(parts);
        only(name, call, with);
    }

    private static Set<Part> of(Part first, Part... more) {
        return EnumSet.of(first, more);
    }

    private static final Set<Part> NOTHING_ELSE = EnumSet.noneOf(Part.class);

    // ---- the calls

    private static void texts() {
        only("2: sign", s -> s.sign(0x2b2b2b2b), of(Part.TEXT));
        only("3: end", s -> s.end(3), of(Part.TEXT));
        only("3: end of all", s -> s.end(4), NOTHING_ELSE);
    }

    private static void readTexts() {
        Set<Part> anew = of(Part.SHORE, Part.WALLS, Part.MOATS, Part.DEPTHS, Part.PLACES, Part.TIDE, Part.SEEN, Part.UNDO, Part.KEPT);
        read("4: shore", "5|60|70", SandKeepsSea::shore, anew);
        EnumSet<Part> asLong = EnumSet.copyOf(anew);
        asLong.remove(Part.SHORE);
        read("4: the same shore", "1|20|30", SandKeepsSea::shore, asLong);
        // MOOD and place of the one that comes are new; it fits nothing that was seen; what is kept can't be taken again.
        read("5: children", "8,8-", SandKeepsSea::children,
            of(Part.CHILDREN, Part.MOODS, Part.HAD, Part.PLACES, Part.UNDO, Part.KEPT));
        read("5: children, empty", "", SandKeepsSea::children, NOTHING_ELSE);
        read("6: rule", "7+n", SandKeepsSea::rule, of(Part.RULE));
        read("6: rule, empty", "", SandKeepsSea::rule, of(Part.RULE));
        read("19: summer", "gcatbsamab1w", SandKeepsSea::summer,
            of(Part.WALLS, Part.MOATS, Part.DEPTHS, Part.MOODS, Part.HAD, Part.PLACES, Part.TIDE, Part.ROW, Part.UNDO));
        read("19: summer of one act", "gca", SandKeepsSea::summer, of(Part.PLACES, Part.ROW, Part.UNDO));
        read("19: summer, empty", "", SandKeepsSea::summer, of(Part.ROW));
        read("33: law", "7+n", SandKeepsSea::law, of(Part.ROW));
    }

    private static void settings() {
        only("9: set(0, 4)", s -> s.set(0, 4), of(Part.WIND));
        only("9: set(0, 3), as it is", s -> s.set(0, 3), NOTHING_ELSE);
        only("9: set(1, 8)", s -> s.set(1, 8), of(Part.SPADES));
        only("10: sheet", s -> s.sheet(2, 3, 7, -3), of(Part.MOODS));
        only("10: a missing sheet", s -> s.sheet(3, 0, 0, 0), of(Part.MOODS));
    }

    private static void acts() {
        act("11: go", s -> s.go(2, 2), of(Part.PLACES));
        act("11: go from a cell", s -> s.go(0, 2), of(Part.PLACES));
        act("12: home", s -> s.home(0), of(Part.PLACES));
        act("13: spade given back", s -> s.spade(0), of(Part.HAD));
        act("14: treat", s -> s.treat(0), of(Part.MOODS));
        act("15: moat dug", s -> s.moat(1), of(Part.MOATS));
        act("15: moat filled", s -> s.moat(0), of(Part.MOATS));
        act("16: build", s -> s.build(1), of(Part.WALLS, Part.MOODS, Part.ROW));
        act("16: build till they go home", s -> s.build(9), of(Part.WALLS, Part.MOODS, Part.PLACES, Part.ROW));
        act("16: build(0)", s -> s.build(0), of(Part.ROW));
        act("17: tide", s -> s.tide(), of(Part.WALLS, Part.MOATS, Part.DEPTHS, Part.TIDE, Part.ROW));
        act("18: pump", s -> s.pump(1), of(Part.DEPTHS));
        only("20: undo", s -> s.undo(), of(Part.MOATS, Part.UNDO));
        only("20: undo of all", s -> {
            while (s.undo() >= 0) {
                continue;
            }
        }, with(STATE, Part.UNDO));
    }

    private static void sights() {
        only("34: seen", s -> s.seen(1, 6), of(Part.SEEN));
        only("34: seen again", s -> s.seen(0, 6), of(Part.SEEN));
        only("35: forget", s -> s.forget(), of(Part.SEEN));
    }

    private static void kept() {
        only("41: keep(1)", s -> s.keep(1), of(Part.KEPT));
        only("41: keep(0) anew", s -> s.keep(0), of(Part.KEPT));
        only("42: again(0)", s -> s.again(0), with(STATE, Part.UNDO));
    }

    private static Set<Part> with(Set<Part> parts, Part more) {
        EnumSet<Part> all = EnumSet.copyOf(parts);
        all.add(more);
        return all;
    }
}
