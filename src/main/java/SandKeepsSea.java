import java.util.Arrays;
import java.util.NoSuchElementException;

/** A polder behind a wall of sand: ../shared/DOC.md says what each call promises. */
public final class SandKeepsSea {
    public static final int NONE = -1;

    private static final int MOST_CELLS = 12;
    private static final int MOST_CHILDREN = 8;
    private static final int MOST_SIGNS = 80;
    private static final int MOST_RULE = 40;
    private static final int MOST_NESTED = 4;
    private static final int MOST_TALE = 60;
    private static final int MOST_CHILDREN_TEXT = 47;
    private static final int MOST_HEIGHT = 999;
    private static final int MOST_MOOD = 9;
    private static final int MOST_WIND = 9;
    private static final int FIRST_MOOD = 5;
    private static final int BAD_MOOD = 3;
    private static final int TREAT = 3;
    private static final int OLDEST = 13;
    private static final int YOUNGEST = 4;
    private static final int MOST_UNDONE = 15;
    private static final int MOST_KEPT = 3;
    private static final int MOST_SPELLS = 30;
    private static final int MOST_PLANNED_SPELLS = 9;
    private static final int MOST_TIDES = 99;
    private static final int MOST_SEEN = 4;
    private static final int MOST_DAYS = 12;
    private static final int MOST_KEPT_SPADES = 9;
    private static final int TOP_DYKE = 9;

    private static final int CANT = -2;
    private static final int CANT_EITHER = -3;
    private static final int NO_SUCH_COUNT = -100;
    private static final int BAD_LAW = -10000;
    private static final int TEXT_END = -1;

    private final Text text = new Text();
    private final Row told = new Row();
    private final Land land = new Land();
    private final Crowd crowd = new Crowd();
    private Law law = new Law();
    private Law otherLaw = new Law();
    private int wind;
    private int spadeLimit = 2;
    private final State now = new State(land, crowd);
    private final State trial = new State(land, crowd);
    private final History history = new History(land, crowd);
    private final State[] kept = new State[MOST_KEPT];
    private final int[] keptChildren = new int[MOST_KEPT];
    private final Guess guess = new Guess(crowd);
    private final CrewPlan crewPlan = new CrewPlan(land, crowd);
    private final MoatPlan moatPlan = new MoatPlan(land);
    private final Chance chance = new Chance();

    public SandKeepsSea() {
        for (int i = 0; i < MOST_KEPT; i++) {
            kept[i] = new State(land, crowd);
            keptChildren[i] = NONE;
        }
    }

    // ---- the shore, children

    public int sign(int v) {
        return text.add(v) ? text.length : NONE;
    }

    public boolean end(int n) {
        return text.cut(n);
    }

    public int shore() {
        int bad = land.read(text);
        text.length = 0;
        if (bad != NONE) {
            return -1 - bad;
        }
        now.startAnew();
        guess.clear();
        history.clear();
        for (int i = 0; i < MOST_KEPT; i++) {
            keptChildren[i] = NONE;
        }
        return land.cells;
    }

    public int children() {
        int before = crowd.size;
        int answer = crowd.read(text);
        text.length = 0;
        if (answer > 0) {
            now.welcome(before);
            history.clear();
        }
        return answer;
    }

    public int rule() {
        int bad = otherLaw.read(text);
        text.length = 0;
        if (bad != NONE) {
            return -1 - bad;
        }
        Law old = law;
        law = otherLaw;
        otherLaw = old;
        return 0;
    }

    public int cell(int cell, int what) throws NoSuchElementException {
        if (!land.has(cell)) {
            throw new NoSuchElementException("no such cell");
        }
        switch (what) {
            case 0: return land.base[cell];
            case 1: return now.wall[cell];
            case 2: return now.moats >> cell & 1;
            case 3: return now.depth[cell];
            case 4: return land.dyke[cell];
            case 5: return now.childrenAt(cell);
            case 6: return now.top(cell);
            default: throw new NoSuchElementException("nothing such is told of a cell");
        }
    }

    public int child(int child, int what) throws NoSuchElementException {
        if (!crowd.has(child)) {
            throw new NoSuchElementException("no such child");
        }
        switch (what) {
            case 0: return crowd.age[child];
            case 1: return crowd.skill[child];
            case 2: return crowd.friend[child];
            case 3: return now.mood[child];
            case 4: return now.spades >> child & 1;
            case 5: return now.place[child];
            case 6: return now.buckets(child);
            default: throw new NoSuchElementException("nothing such is told of a child");
        }
    }

    public int set(int what, int v) {
        if (what == 0 && within(v, 0, MOST_WIND)) {
            int was = wind;
            wind = v;
            return was;
        }
        if (what == 1 && within(v, Integer.bitCount(now.spades), MOST_CHILDREN)) {
            int was = spadeLimit;
            spadeLimit = v;
            return was;
        }
        return NONE;
    }

    public int sheet(int kind, int n, int f, int step) {
        if (!within(kind, 0, 3) || n > MOST_CHILDREN) {
            return NONE;
        }
        if (kind == 3) {
            Arrays.fill(now.mood, 0);
            return CANT_EITHER;
        }
        if (n < 0) {
            return CANT;
        }
        int sum = 0;
        int entry = f;
        for (int i = 0; i < crowd.size; i++) {
            now.mood[i] = i < n ? clamp(narrowed(kind, entry), MOST_MOOD) : 0;
            sum += now.mood[i];
            entry += step;
        }
        return sum;
    }

    // ---- spells, tides

    public int go(int child, int cell) {
        return act('g', child, cell);
    }

    public int home(int child) {
        return act('h', child, 0);
    }

    public int spade(int child) {
        return act('s', child, 0);
    }

    public int treat(int child) {
        return act('t', child, 0);
    }

    public int moat(int cell) {
        return act('m', cell, 0);
    }

    public int build(int n) {
        return act('b', n, 0);
    }

    public int tide() {
        return act('w', 0, 0);
    }

    public int pump(int n) {
        return act('p', n, 0);
    }

    public int summer() {
        int bad = faultOfTale();
        int length = text.length;
        text.length = 0;
        if (bad != NONE) {
            return -1 - bad;
        }
        history.mark(now);
        int done = 0;
        int refused = 0;
        int p = 0;
        // The signs stand in THE TEXT's row yet, though its length is 0.
        while (p < length && refused == 0) {
            int kind = text.signs[p];
            int words = wordsOf(kind);
            int first = words > 0 ? wordAt(p + 1) : 0;
            int second = words > 1 ? wordAt(p + 2) : 0;
            if (perform(kind, first, second) < 0) {
                refused = 1;
            } else {
                done++;
            }
            p += 1 + Math.max(words, 0);
        }
        if (done > 0) {
            history.keepMarked();
        }
        told.tell(refused, Integer.bitCount(now.wet()));
        return done;
    }

    public int undo() {
        return history.takeBack(now);
    }

    // ---- what is to come

    public int level(int n) {
        if (!within(n, 0, MOST_TIDES)) {
            return NONE;
        }
        int height = heightOf(law, now, n);
        told.tell(now.below(height));
        return height;
    }

    public int holds() {
        trial.copy(now);
        for (int t = 1; t <= MOST_TIDES; t++) {
            int height = heightOf(law, trial, 0);
            int broken = trial.surge(height);
            if (broken != 0) {
                told.tell(broken, height);
                return t;
            }
        }
        return CANT;
    }

    public int tides(int n) {
        if (!within(n, 0, 60)) {
            return NONE;
        }
        int broken = breaksOf(law, n);
        told.tell(Integer.bitCount(trial.wet()), trial.water());
        return broken;
    }

    public int spells() {
        int height = heightOf(law, now, 0);
        trial.copy(now);
        for (int n = 0; n <= MOST_SPELLS; n++) {
            if (trial.below(height) == 0) {
                return n;
            }
            trial.spell();
        }
        return CANT;
    }

    public int floods(int cell, int v) {
        if (!land.has(cell) || !within(v, 1, MOST_HEIGHT)) {
            return NONE;
        }
        Arrays.fill(trial.depth, 0);
        trial.depth[cell] = v;
        trial.spread();
        told.tell(Integer.bitCount(trial.wet()), trial.water());
        return trial.wet();
    }

    public int raise(int cell, int v) {
        if (!land.has(cell) || !within(v, 1, MOST_HEIGHT)) {
            return NONE;
        }
        int weak = 0;
        if (cell > 0 && v > land.dyke[cell - 1] + 1) {
            weak |= 1 << cell - 1;
        }
        if (cell + 1 < land.cells && v > land.dyke[cell] + 1) {
            weak |= 1 << cell;
        }
        if (weak != 0 && v > TOP_DYKE + 1) {
            return CANT;
        }
        told.tell(weak);
        return Integer.bitCount(weak);
    }

    // ---- who builds where

    public int crew(int those, int n) {
        if (those >> crowd.size != 0 || !within(n, 1, MOST_PLANNED_SPELLS)) {
            return NONE;
        }
        if (Integer.bitCount(those) > 4) {
            return CANT_EITHER;
        }
        int size = crewPlan.find(now, trial, those, n, heightOf(law, now, 0));
        if (size < 0) {
            return CANT;
        }
        told.clear();
        for (int i = 0; i < crowd.size; i++) {
            told.add(crewPlan.place[i]);
        }
        return size;
    }

    public int post(int child, int n) {
        if (!crowd.has(child) || !within(n, 1, MOST_PLANNED_SPELLS)) {
            return NONE;
        }
        if (now.mood[child] == 0) {
            return CANT;
        }
        int height = heightOf(law, now, 0);
        int best = NONE;
        int most = 0;
        for (int c = 0; c < land.cells; c++) {
            trial.copy(now);
            trial.place[child] = c;
            trial.buildOn(n);
            int spare = trial.lowestTop() - height;
            if (best == NONE || spare > most) {
                most = spare;
                best = c;
            }
        }
        told.tell(1000 + most);
        return best;
    }

    public int moats(int k) {
        if (!within(k, 0, 4)) {
            return NONE;
        }
        if (k > land.cells) {
            return CANT;
        }
        int longest = moatPlan.find(now, law, wind, k);
        told.tell(moatPlan.chosen);
        return longest;
    }

    public int spades() {
        trial.copy(now);
        trial.spades = 0;
        // One CHILD's spade matters to no other: the best go first, of equal ones the lowest.
        for (int had = 0; had < spadeLimit; had++) {
            trial.spades |= bestForSpade();
        }
        told.tell(trial.spades);
        return trial.bucketsTogether();
    }

    // ---- moods

    public int treats(int n) {
        if (!within(n, 1, MOST_PLANNED_SPELLS)) {
            return NONE;
        }
        int working = crowd.all() & ~now.atHome();
        if (n + 1 > MOST_MOOD && working != 0) {
            return CANT;
        }
        told.clear();
        int sum = 0;
        for (int i = 0; i < crowd.size; i++) {
            int lack = (working >> i & 1) == 0 ? 0 : Math.max(0, n + 1 - now.mood[i]);
            int own = (lack + TREAT - 1) / TREAT;
            told.add(own);
            sum += own;
        }
        return sum;
    }

    public int work(int n) {
        if (!within(n, 0, MOST_SPELLS)) {
            return NONE;
        }
        trial.copy(now);
        trial.buildOn(n);
        told.clear();
        for (int c = 0; c < land.cells; c++) {
            told.add(trial.wall[c] - now.wall[c]);
        }
        return trial.sand() - now.sand();
    }

    // ---- laws

    public int law() {
        int bad = otherLaw.read(text);
        text.length = 0;
        if (bad != NONE) {
            return BAD_LAW - bad;
        }
        int byOther = breaksOf(otherLaw, 20);
        int byOwn = breaksOf(law, 20);
        told.tell(byOther, byOwn);
        return byOther - byOwn;
    }

    // ---- who built what

    public int seen(int cell, int v) {
        if (!land.has(cell) || !within(v, 0, 99)) {
            return NONE;
        }
        return guess.note(cell, v);
    }

    public int forget() {
        int were = Integer.bitCount(guess.cells);
        guess.clear();
        return were;
    }

    public int ways() {
        guess.begin();
        int many = guess.fitting(crowd.all());
        told.clear();
        if (many > 0) {
            guess.tellLeast(told);
        }
        return many;
    }

    public int was(int child) {
        if (!crowd.has(child)) {
            return NONE;
        }
        guess.begin();
        int others = crowd.all() & ~(1 << child);
        int none = guess.fitting(others) > 0 ? 1 : 0;
        told.tell(none);
        return guess.cellsOf(child, others);
    }

    // ---- chance, rest

    public int rain(int n, int k, int p) {
        if (!within(n, 1, MOST_DAYS) || !within(k, 1, MOST_DAYS) || !within(p, 0, 10)) {
            return NONE;
        }
        long upper = chance.longRains(n, k, p);
        long lower = 1;
        for (int i = 0; i < n; i++) {
            lower *= 10;
        }
        long common = divisor(lower, upper);
        if (common > 0) {
            upper /= common;
            lower /= common;
        }
        told.tell(upper, lower);
        return 0;
    }

    public int rests(int v, int c) {
        if (!within(v, 1, 99) || !within(c, 0, 9)) {
            return NONE;
        }
        chance.weigh(v, c);
        told.clear();
        int many = 0;
        for (int x = 0; x <= MOST_KEPT_SPADES; x++) {
            for (int y = 0; y <= MOST_KEPT_SPADES; y++) {
                if (chance.atRest(x, y, v, c)) {
                    if (many == 0) {
                        told.tell(x, y);
                    }
                    many++;
                }
            }
        }
        return many;
    }

    public int summers(int seed, int n) {
        if (!within(n, 1, 60)) {
            return NONE;
        }
        trial.copy(now);
        chance.seed = seed;
        int broken = 0;
        for (int i = 0; i < n; i++) {
            int what = chance.draw(4);
            if (what < 2) {
                trial.spell();
            } else if (what == 2) {
                sendDrawn();
            } else if (trial.surge(heightOf(law, trial, 0)) != 0) {
                broken++;
            }
        }
        told.tell(Integer.bitCount(trial.wet()), Integer.bitCount(trial.atHome()));
        return broken;
    }

    // ---- kept

    public boolean keep(int i) {
        if (!within(i, 0, MOST_KEPT - 1)) {
            return false;
        }
        kept[i].copy(now);
        keptChildren[i] = crowd.size;
        return true;
    }

    public boolean again(int i) {
        if (!within(i, 0, MOST_KEPT - 1) || keptChildren[i] != crowd.size) {
            return false;
        }
        now.copy(kept[i]);
        history.clear();
        return true;
    }

    public int count(int what) {
        switch (what) {
            case 0: return land.cells;
            case 1: return crowd.size;
            case 2: return now.tides;
            case 3: return wind;
            case 4: return spadeLimit;
            case 5: return now.spades;
            case 6: return now.moats;
            case 7: return now.wet();
            case 8: return now.atHome();
            case 9: return now.sand();
            case 10: return guess.cells;
            case 11: return history.size;
            case 12: return told.size;
            case 13: return text.length;
            default: return NO_SUCH_COUNT;
        }
    }

    public long row(int i) throws NoSuchElementException {
        if (!within(i, 0, told.size - 1)) {
            throw new NoSuchElementException("the row has no such number");
        }
        return told.numbers[i];
    }

    // ---- acts, one by one

    private int act(int kind, int first, int second) {
        history.mark(now);
        int answer = perform(kind, first, second);
        if (answer >= 0) {
            history.keepMarked();
        }
        return answer;
    }

    private int perform(int kind, int first, int second) {
        switch (kind) {
            case 'g': return now.send(first, second);
            case 'h': return now.sendHome(first);
            case 's': return now.passSpade(first, spadeLimit);
            case 't': return now.cheer(first);
            case 'm': return now.dig(first);
            case 'b': return buildAndTell(first);
            case 'w': return surgeAndTell();
            case 'p': return now.drain(first);
            default: return NONE;
        }
    }

    private int buildAndTell(int n) {
        if (!within(n, 0, MOST_SPELLS)) {
            return NONE;
        }
        int sand = now.sand();
        int atHome = now.atHome();
        now.buildOn(n);
        told.tell(now.atHome() & ~atHome);
        return now.sand() - sand;
    }

    private int surgeAndTell() {
        int water = now.water();
        int height = heightOf(law, now, 0);
        int broken = now.surge(height);
        told.tell(height, now.water() - water);
        return broken;
    }

    // ---- a summer's text

    /** The place of the sign that can't stand in A SUMMER, or NONE. */
    private int faultOfTale() {
        int limit = Math.min(text.length, MOST_TALE);
        int p = 0;
        while (p < limit) {
            int kind = text.signs[p];
            int words = wordsOf(kind);
            if (words < 0) {
                return p;
            }
            p++;
            for (int w = 0; w < words; w++) {
                if (p >= limit || !wordFits(kind, w, text.signs[p])) {
                    return p;
                }
                p++;
            }
        }
        return text.length > limit ? limit : NONE;
    }

    private static int wordsOf(int kind) {
        switch (kind) {
            case 'g': return 2;
            case 'h':
            case 's':
            case 't':
            case 'm':
            case 'b': return 1;
            case 'w': return 0;
            default: return NONE;
        }
    }

    private static boolean wordFits(int kind, int w, int sign) {
        if (kind == 'b') {
            return isDigit(sign);
        }
        boolean ofCell = kind == 'm' || w == 1;
        return within(sign, 'a', ofCell ? 'l' : 'h');
    }

    private int wordAt(int p) {
        if (!within(p, 0, MOST_SIGNS - 1)) {
            return NONE;
        }
        int sign = text.signs[p];
        return isDigit(sign) ? sign - '0' : sign - 'a';
    }

    // ---- tides, draws

    private int heightOf(Law by, State state, int ahead) {
        return by.value((state.tides + ahead) % 8, wind, land.cells, Integer.bitCount(state.moats));
    }

    /** How many of n TIDES from now on BREAK; the trial state is as it is behind them. */
    private int breaksOf(Law by, int n) {
        trial.copy(now);
        int broken = 0;
        for (int i = 0; i < n; i++) {
            if (trial.surge(heightOf(by, trial, 0)) != 0) {
                broken++;
            }
        }
        return broken;
    }

    /** The CHILD (as a bit) who builds most more by a spade, of those without one in the trial state; 0: nobody. */
    private int bestForSpade() {
        int without = trial.spades;
        int best = 0;
        int most = 0;
        for (int i = 0; i < crowd.size; i++) {
            int bare = trial.buckets(i);
            trial.spades = without | 1 << i;
            int more = trial.buckets(i) - bare;
            trial.spades = without;
            if (more > most) {
                most = more;
                best = 1 << i;
            }
        }
        return best;
    }

    private void sendDrawn() {
        if (crowd.size == 0) {
            return;
        }
        int child = chance.draw(crowd.size);
        int cell = chance.draw(land.cells);
        if (crowd.has(child) && land.has(cell) && trial.mood[child] != 0) {
            trial.place[child] = cell;
        }
    }

    // ---- numbers

    private static boolean within(int v, int least, int most) {
        return v >= least && v <= most;
    }

    private static boolean isDigit(int sign) {
        return sign >= '0' && sign <= '9';
    }

    private static int clamp(int v, int most) {
        return Math.max(0, Math.min(most, v));
    }

    private static int narrowed(int kind, int entry) {
        if (kind == 0) {
            return (byte) entry;
        }
        return kind == 1 ? (short) entry : entry;
    }

    private static long divisor(long a, long b) {
        long x = a;
        long y = b;
        // Two numbers below 2 to the 63 need fewer than 100 steps.
        for (int i = 0; i < 100 && y != 0; i++) {
            long rest = x % y;
            x = y;
            y = rest;
        }
        return x;
    }

    private static int wash(int height, int base, boolean moated) {
        return Math.max(0, height - 10 * base) / (moated ? 8 : 4);
    }

    /** THE TEXT. */
    private static final class Text {
        final char[] signs = new char[MOST_SIGNS];
        int length;

        boolean add(int v) {
            if (length + 4 > MOST_SIGNS) {
                return false;
            }
            for (int shift = 24; shift >= 0; shift -= 8) {
                signs[length] = (char) (v >> shift & 255);
                length++;
            }
            return true;
        }

        boolean cut(int n) {
            if (n < 0 || n > length) {
                return false;
            }
            length = n;
            return true;
        }

        /** The sign at p of the first most signs, TEXT_END where there is none. */
        int signAt(int p, int most) {
            return p >= 0 && p < length && p < most ? signs[p] : TEXT_END;
        }
    }

    /** THE ROW. */
    private static final class Row {
        final long[] numbers = new long[MOST_CELLS];
        int size;

        void clear() {
            size = 0;
        }

        void add(long number) {
            if (size < MOST_CELLS) {
                numbers[size] = number;
                size++;
            }
        }

        void tell(long only) {
            clear();
            add(only);
        }

        void tell(long first, long second) {
            clear();
            add(first);
            add(second);
        }
    }

    /** What of a shore its text tells. */
    private static final class Land {
        private static final int CELL_DUE = 0;
        private static final int CELL_STANDS = 1;
        private static final int DYKE_DUE = 2;

        int cells = 1;
        final int[] base = new int[MOST_CELLS];
        final int[] dyke = new int[MOST_CELLS];
        // A text that is refused must leave the shore as it was.
        private final int[] newBase = new int[MOST_CELLS];
        private final int[] newDyke = new int[MOST_CELLS];

        boolean has(int cell) {
            return cell >= 0 && cell < cells;
        }

        /** The place of the sign that can't stand there, or NONE: then the shore is this one. */
        int read(Text text) {
            int due = CELL_DUE;
            int many = 0;
            for (int p = 0; p < text.length; p++) {
                int sign = text.signs[p];
                if (due == CELL_STANDS && sign == '|' && many < MOST_CELLS) {
                    due = DYKE_DUE;
                } else if (!isDigit(sign)) {
                    return p;
                } else if (due == DYKE_DUE && many > 0) {
                    newDyke[many - 1] = sign - '0';
                    due = CELL_DUE;
                } else if (many < MOST_CELLS) {
                    newBase[many] = sign - '0';
                    newDyke[many] = 0;
                    many++;
                    due = CELL_STANDS;
                } else {
                    return p;
                }
            }
            if (due != CELL_STANDS) {
                return text.length;
            }
            cells = many;
            System.arraycopy(newBase, 0, base, 0, MOST_CELLS);
            System.arraycopy(newDyke, 0, dyke, 0, MOST_CELLS);
            return NONE;
        }
    }

    /** What of CHILDREN their text tells. */
    private static final class Crowd {
        int size;
        final int[] age = new int[MOST_CHILDREN];
        final int[] skill = new int[MOST_CHILDREN];
        final int[] friend = new int[MOST_CHILDREN];
        /** As bits: the FRIEND of each, and those whose FRIEND it is. */
        final int[] pals = new int[MOST_CHILDREN];

        boolean has(int child) {
            return child >= 0 && child < size;
        }

        int all() {
            return (1 << size) - 1;
        }

        /** How many came; or -1 - p, and nobody did. */
        int read(Text text) {
            if (text.length == 0) {
                return 0;
            }
            int many = size;
            int p = 0;
            boolean more = true;
            // Each LINE takes a place of its own, so there are at most MOST_CHILDREN.
            while (more && many < MOST_CHILDREN) {
                p = readLine(text, p, many);
                if (p < 0) {
                    return p;
                }
                many++;
                more = text.signAt(p, MOST_CHILDREN_TEXT) == ';';
                if (more) {
                    p++;
                }
            }
            if (more || p < text.length) {
                return -1 - p;
            }
            int came = many - size;
            befriend(size, many);
            size = many;
            return came;
        }

        /** The place behind the LINE at p, or -1 - the place of the sign that can't stand. */
        private int readLine(Text text, int start, int child) {
            int p = start;
            int sign = text.signAt(p, MOST_CHILDREN_TEXT);
            if (!isDigit(sign) || child >= MOST_CHILDREN) {
                return -1 - p;
            }
            int years = sign - '0';
            p++;
            sign = text.signAt(p, MOST_CHILDREN_TEXT);
            if (isDigit(sign)) {
                years = 10 * years + sign - '0';
                p++;
            }
            if (!within(years, YOUNGEST, OLDEST)) {
                return -p;
            }
            if (text.signAt(p, MOST_CHILDREN_TEXT) != ',') {
                return -1 - p;
            }
            p++;
            sign = text.signAt(p, MOST_CHILDREN_TEXT);
            if (!within(sign, '1', '9')) {
                return -1 - p;
            }
            age[child] = years;
            skill[child] = sign - '0';
            p++;
            sign = text.signAt(p, MOST_CHILDREN_TEXT);
            if (sign != '-' && !within(sign - 'a', 0, child - 1)) {
                return -1 - p;
            }
            friend[child] = sign == '-' ? NONE : sign - 'a';
            return p + 1;
        }

        private void befriend(int from, int to) {
            for (int i = from; i < to && i < MOST_CHILDREN; i++) {
                pals[i] = 0;
                int other = friend[i];
                if (other >= 0 && other < i) {
                    pals[i] |= 1 << other;
                    pals[other] |= 1 << i;
                }
            }
        }
    }

    /** THE RULE, or another one, as a row of codes in which an operator stands behind its parts. */
    private static final class Law {
        private static final int TIDE_NUMBER = 1000;
        private static final int WIND = 1001;
        private static final int CELL_COUNT = 1002;
        private static final int MOAT_COUNT = 1003;
        private static final int PLUS = -1;
        private static final int MINUS = -2;
        private static final int TIMES = -3;
        private static final int BY = -4;
        private static final int LESS = -5;
        private static final int MORE = -6;
        private static final int EQUAL = -7;
        private static final int NEGATE = -8;
        private static final int UNKNOWN = -9;
        private static final int[] PLAIN = {30, WIND, 10, TIMES, PLUS, TIDE_NUMBER, 5, TIMES, PLUS};

        private final int[] codes = new int[MOST_RULE];
        private final int[] stack = new int[MOST_RULE];
        private int length;
        private int at;
        private int sign;
        private int bad;

        Law() {
            usePlain();
        }

        private void usePlain() {
            System.arraycopy(PLAIN, 0, codes, 0, PLAIN.length);
            length = PLAIN.length;
        }

        /** The place of the sign that can't stand there, or NONE: then this is the law told. */
        int read(Text text) {
            if (text.length == 0) {
                usePlain();
                return NONE;
            }
            length = 0;
            bad = NONE;
            at = -1;
            step(text);
            readComparison(text, 0);
            if (bad == NONE && at < text.length) {
                bad = at;
            }
            return bad;
        }

        private void readComparison(Text text, int depth) {
            readSum(text, depth);
            int op = sign;
            if (op == '<' || op == '>' || op == '=') {
                step(text);
                readSum(text, depth);
                put(op == '<' ? LESS : op == '>' ? MORE : EQUAL);
            }
        }

        private void readSum(Text text, int depth) {
            readProduct(text, depth);
            for (int i = 0; i < MOST_RULE && (sign == '+' || sign == '-'); i++) {
                int op = sign;
                step(text);
                readProduct(text, depth);
                put(op == '+' ? PLUS : MINUS);
            }
        }

        private void readProduct(Text text, int depth) {
            readThing(text, depth);
            for (int i = 0; i < MOST_RULE && (sign == '*' || sign == '/'); i++) {
                int op = sign;
                step(text);
                readThing(text, depth);
                put(op == '*' ? TIMES : BY);
            }
        }

        private void readThing(Text text, int depth) {
            boolean negative = false;
            for (int i = 0; i < MOST_RULE && sign == '-'; i++) {
                step(text);
                negative = !negative;
            }
            if (isDigit(sign)) {
                readNumber(text);
            } else if (variable(sign) != UNKNOWN) {
                put(variable(sign));
                step(text);
            } else if (sign == '(' && depth < MOST_NESTED) {
                step(text);
                readComparison(text, depth + 1);
                if (sign == ')') {
                    step(text);
                } else {
                    fail();
                }
            } else {
                fail();
            }
            if (negative) {
                put(NEGATE);
            }
        }

        private void readNumber(Text text) {
            int number = 0;
            for (int i = 0; i < 3 && isDigit(sign); i++) {
                number = 10 * number + sign - '0';
                step(text);
            }
            put(number);
        }

        private static int variable(int sign) {
            switch (sign) {
                case 'n': return TIDE_NUMBER;
                case 'w': return WIND;
                case 'c': return CELL_COUNT;
                case 'm': return MOAT_COUNT;
                default: return UNKNOWN;
            }
        }

        private void step(Text text) {
            at++;
            sign = text.signAt(at, MOST_RULE);
        }

        /** Behind a fault no sign comes any more, so that all that is open ends. */
        private void fail() {
            if (bad == NONE) {
                bad = at;
            }
            sign = TEXT_END;
        }

        private void put(int code) {
            if (length < MOST_RULE) {
                codes[length] = code;
                length++;
            }
        }

        /** LEVEL of a TIDE. */
        int value(int number, int wind, int cells, int moats) {
            int top = 0;
            for (int i = 0; i < length; i++) {
                int code = codes[i];
                if (code >= 0 && top < MOST_RULE) {
                    stack[top] = operand(code, number, wind, cells, moats);
                    top++;
                } else if (code == NEGATE && top > 0) {
                    stack[top - 1] = -stack[top - 1];
                } else if (top > 1) {
                    top--;
                    stack[top - 1] = joined(code, stack[top - 1], stack[top]);
                }
            }
            return clamp(stack[0], MOST_HEIGHT);
        }

        private static int operand(int code, int number, int wind, int cells, int moats) {
            switch (code) {
                case TIDE_NUMBER: return number;
                case WIND: return wind;
                case CELL_COUNT: return cells;
                case MOAT_COUNT: return moats;
                default: return code;
            }
        }

        private static int joined(int code, int a, int b) {
            switch (code) {
                case PLUS: return a + b;
                case MINUS: return a - b;
                case TIMES: return a * b;
                case BY: return b == 0 ? 0 : a / b;
                case LESS: return a < b ? 1 : 0;
                case MORE: return a > b ? 1 : 0;
                default: return a == b ? 1 : 0;
            }
        }
    }

    /** What acts change and undo() gives back. */
    private static final class State {
        private final Land land;
        private final Crowd crowd;
        final int[] wall = new int[MOST_CELLS];
        final int[] depth = new int[MOST_CELLS];
        final int[] mood = new int[MOST_CHILDREN];
        final int[] place = new int[MOST_CHILDREN];
        int moats;
        int spades;
        int tides;

        State(Land land, Crowd crowd) {
            this.land = land;
            this.crowd = crowd;
        }

        void copy(State other) {
            System.arraycopy(other.wall, 0, wall, 0, MOST_CELLS);
            System.arraycopy(other.depth, 0, depth, 0, MOST_CELLS);
            System.arraycopy(other.mood, 0, mood, 0, MOST_CHILDREN);
            System.arraycopy(other.place, 0, place, 0, MOST_CHILDREN);
            moats = other.moats;
            spades = other.spades;
            tides = other.tides;
        }

        void startAnew() {
            Arrays.fill(wall, 0);
            Arrays.fill(depth, 0);
            Arrays.fill(place, NONE);
            moats = 0;
            tides = 0;
        }

        /** CHILDREN from that number on are new. */
        void welcome(int from) {
            for (int i = from; i < crowd.size; i++) {
                mood[i] = FIRST_MOOD;
                place[i] = NONE;
            }
        }

        int top(int cell) {
            return 10 * land.base[cell] + wall[cell];
        }

        int lowestTop() {
            int least = top(0);
            for (int c = 1; c < land.cells; c++) {
                least = Math.min(least, top(c));
            }
            return least;
        }

        /** CELLS whose TOP is below a height. */
        int below(int height) {
            int bits = 0;
            for (int c = 0; c < land.cells; c++) {
                if (top(c) < height) {
                    bits |= 1 << c;
                }
            }
            return bits;
        }

        int childrenAt(int cell) {
            int bits = 0;
            for (int i = 0; i < crowd.size; i++) {
                if (place[i] == cell) {
                    bits |= 1 << i;
                }
            }
            return bits;
        }

        int atHome() {
            return childrenAt(NONE);
        }

        int wet() {
            int bits = 0;
            for (int c = 0; c < land.cells; c++) {
                if (depth[c] > 0) {
                    bits |= 1 << c;
                }
            }
            return bits;
        }

        int water() {
            int sum = 0;
            for (int c = 0; c < land.cells; c++) {
                sum += depth[c];
            }
            return sum;
        }

        int sand() {
            int sum = 0;
            for (int c = 0; c < land.cells; c++) {
                sum += wall[c];
            }
            return sum;
        }

        int buckets(int child) {
            if (place[child] == NONE) {
                return 0;
            }
            int load = crowd.skill[child];
            if ((spades >> child & 1) != 0) {
                load += 2;
            }
            if (crowd.pals[child] != 0 && palNear(child)) {
                load += 1;
            }
            return halved(load, mood[child], crowd.age[child]);
        }

        static int halved(int load, int mood, int age) {
            int rest = mood < BAD_MOOD ? load / 2 : load;
            return age == OLDEST ? rest / 2 : rest;
        }

        private boolean palNear(int child) {
            int pals = crowd.pals[child];
            for (int i = 0; i < crowd.size; i++) {
                if ((pals >> i & 1) != 0 && place[i] != NONE && Math.abs(place[i] - place[child]) <= 1) {
                    return true;
                }
            }
            return false;
        }

        int bucketsTogether() {
            int sum = 0;
            for (int i = 0; i < crowd.size; i++) {
                sum += buckets(i);
            }
            return sum;
        }

        void buildOn(int n) {
            for (int i = 0; i < n; i++) {
                spell();
            }
        }

        /** Nobody's mood or place changes before all have built. */
        void spell() {
            for (int i = 0; i < crowd.size; i++) {
                int cell = place[i];
                if (land.has(cell)) {
                    wall[cell] = Math.min(MOST_HEIGHT, wall[cell] + buckets(i));
                }
            }
            for (int i = 0; i < crowd.size; i++) {
                if (place[i] != NONE) {
                    mood[i] = Math.max(0, mood[i] - 1);
                    if (mood[i] == 0) {
                        place[i] = NONE;
                    }
                }
            }
        }

        /** A TIDE: CELLS that BREAK. */
        int surge(int height) {
            int broken = 0;
            for (int c = 0; c < land.cells; c++) {
                int over = height - top(c);
                if (over > 0) {
                    broken |= 1 << c;
                    depth[c] = Math.min(MOST_HEIGHT, depth[c] + over);
                    wall[c] /= 2;
                } else {
                    boolean moated = (moats >> c & 1) != 0;
                    wall[c] = Math.max(0, wall[c] - wash(height, land.base[c], moated));
                }
            }
            moats &= ~broken;
            spread();
            tides++;
            return broken;
        }

        /** Once to the right and once to the left is enough: water never comes back higher. */
        void spread() {
            for (int c = 1; c < land.cells; c++) {
                depth[c] = Math.max(depth[c], depth[c - 1] - land.dyke[c - 1] - 1);
            }
            for (int c = land.cells - 1; c > 0; c--) {
                depth[c - 1] = Math.max(depth[c - 1], depth[c] - land.dyke[c - 1] - 1);
            }
        }

        int send(int child, int cell) {
            if (!crowd.has(child) || !land.has(cell)) {
                return NONE;
            }
            if (mood[child] == 0) {
                return CANT;
            }
            int was = place[child];
            if (was == cell) {
                return CANT_EITHER;
            }
            place[child] = cell;
            return was + 1;
        }

        int sendHome(int child) {
            if (!crowd.has(child)) {
                return NONE;
            }
            int was = place[child];
            if (was == NONE) {
                return CANT;
            }
            place[child] = NONE;
            return was;
        }

        int passSpade(int child, int limit) {
            if (!crowd.has(child)) {
                return NONE;
            }
            boolean gets = (spades >> child & 1) == 0;
            if (gets && Integer.bitCount(spades) >= limit) {
                return CANT;
            }
            spades ^= 1 << child;
            return Integer.bitCount(spades);
        }

        int cheer(int child) {
            if (!crowd.has(child)) {
                return NONE;
            }
            mood[child] = Math.min(MOST_MOOD, mood[child] + TREAT);
            return mood[child];
        }

        int dig(int cell) {
            if (!land.has(cell)) {
                return NONE;
            }
            moats ^= 1 << cell;
            return Integer.bitCount(moats);
        }

        int drain(int n) {
            if (!within(n, 1, 99)) {
                return NONE;
            }
            for (int c = 0; c < land.cells; c++) {
                depth[c] = Math.max(0, depth[c] - n);
            }
            return Integer.bitCount(wet());
        }
    }

    /** States ahead of the latest acts, in a ring; one place more than are kept, for the act under way. */
    private static final class History {
        private static final int PLACES = MOST_UNDONE + 1;

        private final State[] ring = new State[PLACES];
        private int next;
        int size;

        History(Land land, Crowd crowd) {
            for (int i = 0; i < PLACES; i++) {
                ring[i] = new State(land, crowd);
            }
        }

        void clear() {
            size = 0;
        }

        void mark(State state) {
            ring[next].copy(state);
        }

        void keepMarked() {
            next = (next + 1) % PLACES;
            size = Math.min(MOST_UNDONE, size + 1);
        }

        int takeBack(State state) {
            if (size == 0) {
                return NONE;
            }
            next = (next + PLACES - 1) % PLACES;
            size--;
            state.copy(ring[next]);
            return size;
        }
    }

    /** What was seen of one old SPELL, and who can have built it. */
    private static final class Guess {
        private static final int SETS = 1 << MOST_CHILDREN;

        private final Crowd crowd;
        int cells;
        private final int[] amount = new int[MOST_CELLS];
        private final int[] open = new int[MOST_CELLS];
        private final int[] sums = new int[SETS];
        private int[] ways = new int[SETS];
        private int[] nextWays = new int[SETS];

        Guess(Crowd crowd) {
            this.crowd = crowd;
        }

        void clear() {
            cells = 0;
        }

        int note(int cell, int v) {
            int with = cells | 1 << cell;
            if (Integer.bitCount(with) > MOST_SEEN) {
                return NONE;
            }
            cells = with;
            amount[cell] = v;
            return Integer.bitCount(cells);
        }

        /** Nobody is told to any CELL yet. */
        void begin() {
            System.arraycopy(amount, 0, open, 0, MOST_CELLS);
            sums[0] = 0;
            for (int i = 0; i < crowd.size; i++) {
                int bit = 1 << i;
                for (int those = 0; those < bit; those++) {
                    sums[bit | those] = sums[those] + crowd.skill[i];
                }
            }
        }

        /** Ways in which those who are free, given as bits, fit what is open yet: CELL by CELL, by who is taken. */
        int fitting(int free) {
            Arrays.fill(ways, 0);
            ways[0] = 1;
            for (int c = 0; c < MOST_CELLS; c++) {
                if ((cells >> c & 1) != 0) {
                    fillCell(free, open[c]);
                }
            }
            int sum = 0;
            for (int taken = 0; taken <= free; taken++) {
                sum += ways[taken];
            }
            return sum;
        }

        private void fillCell(int free, int due) {
            Arrays.fill(nextWays, 0);
            for (int taken = 0; taken <= free; taken++) {
                if (ways[taken] != 0) {
                    addTeams(taken, free & ~taken, due);
                }
            }
            int[] old = ways;
            ways = nextWays;
            nextWays = old;
        }

        private void addTeams(int taken, int rest, int due) {
            int team = rest;
            // All parts of rest, each less than the one ahead, down to nobody.
            for (int i = 0; i < SETS; i++) {
                if (sums[team] == due) {
                    nextWays[taken | team] += ways[taken];
                }
                if (team == 0) {
                    return;
                }
                team = team - 1 & rest;
            }
        }

        /** The least row, if there is a way: each CHILD as low as those behind it allow. */
        void tellLeast(Row row) {
            int free = crowd.all();
            for (int i = 0; i < crowd.size; i++) {
                free &= ~(1 << i);
                row.add(leastOf(i, free));
            }
        }

        private int leastOf(int child, int free) {
            if (fitting(free) > 0) {
                return NONE;
            }
            for (int c = 0; c < MOST_CELLS; c++) {
                if (canBeAt(child, c, free)) {
                    open[c] -= crowd.skill[child];
                    return c;
                }
            }
            return NONE;
        }

        private boolean canBeAt(int child, int cell, int free) {
            if ((cells >> cell & 1) == 0) {
                return false;
            }
            open[cell] -= crowd.skill[child];
            boolean can = fitting(free) > 0;
            open[cell] += crowd.skill[child];
            return can;
        }

        int cellsOf(int child, int others) {
            int bits = 0;
            for (int c = 0; c < MOST_CELLS; c++) {
                if (canBeAt(child, c, others)) {
                    bits |= 1 << c;
                }
            }
            return bits;
        }
    }

    /** Looks for the fewest who build so that the next TIDE does not BREAK. */
    private static final class CrewPlan {
        private final Land land;
        private final Crowd crowd;
        final int[] place = new int[MOST_CHILDREN];
        private final int[] lack = new int[MOST_CELLS];
        private final int[] most = new int[MOST_CHILDREN];
        private int able;
        private int spells;
        private int height;

        CrewPlan(Land land, Crowd crowd) {
            this.land = land;
            this.crowd = crowd;
        }

        /** How many it takes, or NONE; place tells where they are. */
        int find(State now, State trial, int those, int n, int nextHeight) {
            spells = n;
            height = nextHeight;
            prepare(now, those);
            for (int size = 0; size <= Integer.bitCount(able); size++) {
                if (settle(now, trial, 0, size)) {
                    return size;
                }
            }
            return NONE;
        }

        private void prepare(State now, int those) {
            able = 0;
            for (int c = 0; c < land.cells; c++) {
                lack[c] = height - now.top(c);
            }
            for (int i = 0; i < crowd.size; i++) {
                place[i] = NONE;
                most[i] = 0;
                if ((those >> i & 1) != 0 && now.mood[i] > 0) {
                    able |= 1 << i;
                    most[i] = mostOf(now, i, (crowd.pals[i] & those) != 0);
                }
            }
        }

        /** What a CHILD builds at most, with a pal beside it all the time, if it can have one. */
        private int mostOf(State now, int child, boolean paired) {
            int load = crowd.skill[child] + ((now.spades >> child & 1) != 0 ? 2 : 0) + (paired ? 1 : 0);
            int sum = 0;
            for (int mood = now.mood[child]; mood > 0 && mood > now.mood[child] - spells; mood--) {
                sum += State.halved(load, mood, crowd.age[child]);
            }
            return sum;
        }

        /** CHILDREN from that number on are placed, so many of them at CELLS, the least row first. */
        private boolean settle(State now, State trial, int child, int size) {
            if (hopeless(child, size)) {
                return false;
            }
            if (child >= crowd.size) {
                return stands(now, trial);
            }
            place[child] = NONE;
            if (settle(now, trial, child + 1, size)) {
                return true;
            }
            if (size == 0 || (able >> child & 1) == 0) {
                return false;
            }
            for (int c = 0; c < land.cells; c++) {
                place[child] = c;
                lack[c] -= most[child];
                boolean found = settle(now, trial, child + 1, size - 1);
                lack[c] += most[child];
                if (found) {
                    return true;
                }
            }
            place[child] = NONE;
            return false;
        }

        /** Too few are left, or too many CELLS or too much sand are yet to be cared for. */
        private boolean hopeless(int child, int size) {
            if (Integer.bitCount(able >> child) < size) {
                return true;
            }
            int low = 0;
            int sand = 0;
            for (int c = 0; c < land.cells; c++) {
                if (lack[c] > 0) {
                    low++;
                    sand += lack[c];
                }
            }
            for (int i = child; i < crowd.size && size > 0; i++) {
                sand -= most[i];
            }
            return low > size || sand > 0;
        }

        private boolean stands(State now, State trial) {
            trial.copy(now);
            System.arraycopy(place, 0, trial.place, 0, MOST_CHILDREN);
            for (int i = 0; i < spells; i++) {
                trial.spell();
            }
            return trial.below(height) == 0;
        }
    }

    /** Looks where MOATS let the wall hold longest: till it BREAKS, no CELL matters to another. */
    private static final class MoatPlan {
        private final Land land;
        private final int[] heights = new int[8];
        private final int[] bare = new int[MOST_CELLS];
        private final int[] moated = new int[MOST_CELLS];
        int chosen;

        MoatPlan(Land land) {
            this.land = land;
        }

        /** In how many TIDES it BREAKS first; chosen tells the CELLS with MOATS. */
        int find(State now, Law law, int wind, int k) {
            for (int n = 0; n < 8; n++) {
                heights[n] = law.value(n, wind, land.cells, k);
            }
            for (int c = 0; c < land.cells; c++) {
                bare[c] = lasts(now, c, false);
                moated[c] = lasts(now, c, true);
            }
            int longest = 0;
            for (int those = 0; those < 1 << land.cells; those++) {
                if (Integer.bitCount(those) == k) {
                    int first = firstBreak(those);
                    if (first > longest) {
                        longest = first;
                        chosen = those;
                    }
                }
            }
            return longest;
        }

        private int lasts(State now, int cell, boolean withMoat) {
            int wall = now.wall[cell];
            for (int t = 1; t <= MOST_TIDES; t++) {
                int height = heights[(now.tides + t - 1) % 8];
                if (height > 10 * land.base[cell] + wall) {
                    return t;
                }
                wall = Math.max(0, wall - wash(height, land.base[cell], withMoat));
            }
            return MOST_TIDES + 1;
        }

        private int firstBreak(int those) {
            int first = MOST_TIDES + 1;
            for (int c = 0; c < land.cells; c++) {
                first = Math.min(first, (those >> c & 1) != 0 ? moated[c] : bare[c]);
            }
            return first;
        }
    }

    /** Draws, days of rain, spades at rest. */
    private static final class Chance {
        int seed;
        private final long[] runs = new long[MOST_DAYS];
        private final int[] best = new int[MOST_KEPT_SPADES + 1];

        int draw(int n) {
            seed = seed * 1103515245 + 12345;
            return n > 0 ? (seed >>> 16) % n : 0;
        }

        /** Of 10 to the n equal cases, those with k days of rain one behind the other. */
        long longRains(int n, int k, int p) {
            Arrays.fill(runs, 0);
            runs[0] = 1;
            long reached = 0;
            for (int day = 0; day < n; day++) {
                long all = 0;
                for (int r = 0; r < k && r < MOST_DAYS; r++) {
                    all += runs[r];
                }
                reached *= 10;
                for (int r = Math.min(k, MOST_DAYS) - 1; r >= 0; r--) {
                    if (r == k - 1) {
                        reached += runs[r] * p;
                    } else {
                        runs[r + 1] = runs[r] * p;
                    }
                }
                runs[0] = all * (10 - p);
            }
            return reached;
        }

        /** The most that a beach can get beside each number of the other's. */
        void weigh(int v, int c) {
            for (int other = 0; other <= MOST_KEPT_SPADES; other++) {
                best[other] = share(0, other, v, c);
                for (int own = 1; own <= MOST_KEPT_SPADES; own++) {
                    best[other] = Math.max(best[other], share(own, other, v, c));
                }
            }
        }

        boolean atRest(int x, int y, int v, int c) {
            return share(x, y, v, c) == best[y] && share(y, x, v, c) == best[x];
        }

        private static int share(int own, int other, int v, int c) {
            int together = own + other;
            return together > 0 ? v * own / together - c * own : 0;
        }
    }
}
