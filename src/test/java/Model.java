import java.math.BigInteger;
import java.util.ArrayDeque;
import java.util.ArrayList;
import java.util.Arrays;
import java.util.List;

/**
 * The document once more, as slowly and plainly as its words: every search tries all there is, every text is read by
 * trying how far its signs can stand. It shares no code with SandKeepsSea.
 */
final class Model {
    static final class Child {
        int age;
        int skill;
        int friend;
        int mood = 5;
        boolean spade;
        int at = -1;

        Child copy() {
            Child c = new Child();
            c.age = age;
            c.skill = skill;
            c.friend = friend;
            c.mood = mood;
            c.spade = spade;
            c.at = at;
            return c;
        }
    }

    /** All that changes by acts, and the shore with it. */
    static final class World {
        int[] base = {0};
        int[] dyke = {};
        int[] wall = {0};
        boolean[] moat = {false};
        int[] depth = {0};
        List<Child> children = new ArrayList<>();
        int tide;

        World copy() {
            World w = new World();
            w.base = base;
            w.dyke = dyke.clone();
            w.wall = wall.clone();
            w.moat = moat.clone();
            w.depth = depth.clone();
            for (Child c : children) {
                w.children.add(c.copy());
            }
            w.tide = tide;
            return w;
        }

        int cells() {
            return base.length;
        }

        int moats() {
            int n = 0;
            for (boolean m : moat) {
                n += m ? 1 : 0;
            }
            return n;
        }

        int top(int c) {
            return 10 * base[c] + wall[c];
        }

        boolean friends(int i, int j) {
            return children.get(i).friend == j || children.get(j).friend == i;
        }

        int buckets(int i) {
            Child c = children.get(i);
            if (c.at < 0) {
                return 0;
            }
            int b = c.skill;
            if (c.spade) {
                b += 2;
            }
            boolean beside = false;
            for (int j = 0; j < children.size(); j++) {
                int there = children.get(j).at;
                if (j != i && friends(i, j) && there >= 0
                        && (there == c.at || there == c.at - 1 || there == c.at + 1)) {
                    beside = true;
                }
            }
            if (beside) {
                b += 1;
            }
            if (c.mood < 3) {
                b = b / 2;
            }
            if (c.age == 13) {
                b = b / 2;
            }
            return b;
        }

        int spell() {
            int[] load = new int[children.size()];
            for (int i = 0; i < load.length; i++) {
                load[i] = buckets(i);
            }
            int added = 0;
            for (int i = 0; i < load.length; i++) {
                int at = children.get(i).at;
                if (at >= 0) {
                    int before = wall[at];
                    wall[at] = Math.min(999, before + load[i]);
                    added += wall[at] - before;
                }
            }
            for (Child c : children) {
                if (c.at >= 0) {
                    c.mood = Math.max(0, c.mood - 1);
                    if (c.mood == 0) {
                        c.at = -1;
                    }
                }
            }
            return added;
        }

        void waterGoesOn() {
            boolean changed = true;
            while (changed) {
                changed = false;
                for (int c = 0; c < cells(); c++) {
                    for (int d = c - 1; d <= c + 1; d += 2) {
                        if (d >= 0 && d < cells()) {
                            int comes = depth[d] - dyke[Math.min(c, d)] - 1;
                            if (comes > depth[c]) {
                                depth[c] = comes;
                                changed = true;
                            }
                        }
                    }
                }
            }
        }

        int tideOf(int level) {
            int broken = 0;
            for (int c = 0; c < cells(); c++) {
                int top = top(c);
                if (level > top) {
                    broken |= 1 << c;
                    depth[c] = Math.min(999, depth[c] + level - top);
                    wall[c] = wall[c] / 2;
                    moat[c] = false;
                } else {
                    int wash = Math.max(0, level - 10 * base[c]);
                    wash = moat[c] ? wash / 8 : wash / 4;
                    wall[c] = Math.max(0, wall[c] - wash);
                }
            }
            waterGoesOn();
            tide++;
            return broken;
        }

        int wetCount() {
            int n = 0;
            for (int d : depth) {
                n += d > 0 ? 1 : 0;
            }
            return n;
        }

        int wetBits() {
            int bits = 0;
            for (int c = 0; c < cells(); c++) {
                bits |= depth[c] > 0 ? 1 << c : 0;
            }
            return bits;
        }

        int low(int level) {
            int bits = 0;
            for (int c = 0; c < cells(); c++) {
                bits |= top(c) < level ? 1 << c : 0;
            }
            return bits;
        }

        int homeBits() {
            int bits = 0;
            for (int i = 0; i < children.size(); i++) {
                bits |= children.get(i).at < 0 ? 1 << i : 0;
            }
            return bits;
        }
    }

    String text = "";
    String rule = "";
    int wind;
    int spadesInAll = 2;
    World w = new World();
    ArrayDeque<World> past = new ArrayDeque<>();
    World[] kept = new World[3];
    Integer[] seen = new Integer[12];
    long[] row = {};

    private static int sum(int[] numbers) {
        return Arrays.stream(numbers).sum();
    }

    private void tell(long... numbers) {
        row = numbers;
    }

    private boolean isCell(int c) {
        return c >= 0 && c < w.cells();
    }

    private boolean isChild(int i) {
        return i >= 0 && i < w.children.size();
    }

    // ---- texts

    int sign(int v) {
        if (text.length() + 4 > 80) {
            return -1;
        }
        text += "" + (char) (v >>> 24) + (char) (v >>> 16 & 255) + (char) (v >>> 8 & 255) + (char) (v & 255);
        return text.length();
    }

    boolean end(int n) {
        if (n < 0 || n > text.length()) {
            return false;
        }
        text = text.substring(0, n);
        return true;
    }

    private String takeText() {
        String t = text;
        text = "";
        return t;
    }

    int shore() {
        String t = takeText();
        if (!t.matches("[0-9]((\\|[0-9])?[0-9]){0,11}")) {
            // The longest beginning that could still become a shore.
            for (int p = t.length(); p >= 0; p--) {
                String head = t.substring(0, p);
                if (head.isEmpty() || head.matches("[0-9]((\\|[0-9])?[0-9]){0,11}")
                        || head.matches("[0-9]((\\|[0-9])?[0-9]){0,10}\\|[0-9]?")) {
                    return -1 - p;
                }
            }
        }
        List<Integer> bases = new ArrayList<>();
        List<Integer> dykes = new ArrayList<>();
        for (int p = 0; p < t.length(); p++) {
            if (t.charAt(p) == '|') {
                dykes.set(dykes.size() - 1, t.charAt(p + 1) - '0');
                p++;
            } else {
                bases.add(t.charAt(p) - '0');
                dykes.add(0);
            }
        }
        int n = bases.size();
        w.base = new int[n];
        w.dyke = new int[n - 1];
        for (int i = 0; i < n; i++) {
            w.base[i] = bases.get(i);
            if (i < n - 1) {
                w.dyke[i] = dykes.get(i);
            }
        }
        w.wall = new int[n];
        w.moat = new boolean[n];
        w.depth = new int[n];
        for (Child c : w.children) {
            c.at = -1;
        }
        w.tide = 0;
        seen = new Integer[12];
        past.clear();
        kept = new World[3];
        return n;
    }

    int children() {
        String t = takeText();
        if (t.isEmpty()) {
            return 0;
        }
        boolean tooLong = t.length() > 47;
        String used = tooLong ? t.substring(0, 47) : t;
        List<Child> come = new ArrayList<>();
        int p = 0;
        for (String line : used.split(";", -1)) {
            int number = w.children.size() + come.size();
            if (number >= 8) {
                return -1 - p;
            }
            int digits = 0;
            while (digits < 2 && digits < line.length() && Character.isDigit(line.charAt(digits))) {
                digits++;
            }
            if (digits == 0) {
                return -1 - p;
            }
            int age = Integer.parseInt(line.substring(0, digits));
            if (age < 4 || age > 13) {
                return -1 - (p + digits - 1);
            }
            String rest = line.substring(digits);
            if (!rest.startsWith(",")) {
                return -1 - (p + digits);
            }
            if (rest.length() < 2 || "123456789".indexOf(rest.charAt(1)) < 0) {
                return -1 - (p + digits + 1);
            }
            String friends = "-abcdefgh".substring(0, number + 1);
            if (rest.length() < 3 || friends.indexOf(rest.charAt(2)) < 0) {
                return -1 - (p + digits + 2);
            }
            if (rest.length() > 3) {
                return -1 - (p + digits + 3);
            }
            Child c = new Child();
            c.age = age;
            c.skill = rest.charAt(1) - '0';
            c.friend = friends.indexOf(rest.charAt(2)) - 1;
            come.add(c);
            p += line.length() + 1;
        }
        if (tooLong) {
            return -1 - 47;
        }
        w.children.addAll(come);
        past.clear();
        return come.size();
    }

    /** Where a rule's text goes wrong, or -1: walks over it with a stack of "a comparison was here" marks. */
    static int ruleFault(String t) {
        if (t.isEmpty()) {
            return -1;
        }
        String used = t.length() > 40 ? t.substring(0, 40) : t;
        ArrayDeque<Boolean> compared = new ArrayDeque<>();
        compared.push(false);
        boolean wantThing = true;
        int digits = 0;
        for (int p = 0; p < used.length(); p++) {
            char s = used.charAt(p);
            if (wantThing) {
                if (s == '-') {
                    continue;
                }
                if (s == '(' && compared.size() <= 4) {
                    compared.push(false);
                } else if (s >= '0' && s <= '9') {
                    digits = 1;
                    wantThing = false;
                } else if ("nwcm".indexOf(s) >= 0) {
                    digits = 0;
                    wantThing = false;
                } else {
                    return p;
                }
                continue;
            }
            if (s >= '0' && s <= '9' && digits >= 1 && digits < 3) {
                digits++;
            } else if ("+-*/".indexOf(s) >= 0) {
                wantThing = true;
            } else if ("<>=".indexOf(s) >= 0 && !compared.peek()) {
                compared.pop();
                compared.push(true);
                wantThing = true;
            } else if (s == ')' && compared.size() > 1) {
                compared.pop();
                digits = 0;
            } else {
                return p;
            }
        }
        if (t.length() > 40) {
            return 40;
        }
        return wantThing || compared.size() > 1 ? t.length() : -1;
    }

    /** What an expression that is right comes to: it is split at its weakest sign, the last one first. */
    static int worth(String e, int n, int wi, int c, int m) {
        String[] weak = {"<>=", "+-", "*/"};
        for (String ops : weak) {
            int depth = 0;
            for (int p = e.length() - 1; p > 0; p--) {
                char s = e.charAt(p);
                depth += s == ')' ? 1 : s == '(' ? -1 : 0;
                if (depth == 0 && ops.indexOf(s) >= 0 && "<>=+-*/(".indexOf(e.charAt(p - 1)) < 0) {
                    int a = worth(e.substring(0, p), n, wi, c, m);
                    int b = worth(e.substring(p + 1), n, wi, c, m);
                    switch (s) {
                        case '<': return a < b ? 1 : 0;
                        case '>': return a > b ? 1 : 0;
                        case '=': return a == b ? 1 : 0;
                        case '+': return a + b;
                        case '-': return a - b;
                        case '*': return a * b;
                        default: return b == 0 ? 0 : a / b;
                    }
                }
            }
        }
        if (e.startsWith("-")) {
            return -worth(e.substring(1), n, wi, c, m);
        }
        if (e.startsWith("(")) {
            return worth(e.substring(1, e.length() - 1), n, wi, c, m);
        }
        switch (e) {
            case "n": return n;
            case "w": return wi;
            case "c": return c;
            case "m": return m;
            default: return Integer.parseInt(e);
        }
    }

    int levelBy(String law, World world, int ahead) {
        String e = law.isEmpty() ? "30+w*10+n*5" : law;
        int v = worth(e, (world.tide + ahead) % 8, wind, world.cells(), world.moats());
        return Math.max(0, Math.min(999, v));
    }

    int rule() {
        String t = takeText();
        int bad = ruleFault(t);
        if (bad >= 0) {
            return -1 - bad;
        }
        rule = t;
        return 0;
    }

    Integer cell(int c, int what) {
        if (!isCell(c)) {
            return null;
        }
        switch (what) {
            case 0: return w.base[c];
            case 1: return w.wall[c];
            case 2: return w.moat[c] ? 1 : 0;
            case 3: return w.depth[c];
            case 4: return c < w.dyke.length ? w.dyke[c] : 0;
            case 5:
                int bits = 0;
                for (int i = 0; i < w.children.size(); i++) {
                    bits |= w.children.get(i).at == c ? 1 << i : 0;
                }
                return bits;
            case 6: return w.top(c);
            default: return null;
        }
    }

    Integer child(int i, int what) {
        if (!isChild(i)) {
            return null;
        }
        Child c = w.children.get(i);
        switch (what) {
            case 0: return c.age;
            case 1: return c.skill;
            case 2: return c.friend;
            case 3: return c.mood;
            case 4: return c.spade ? 1 : 0;
            case 5: return c.at;
            case 6: return w.buckets(i);
            default: return null;
        }
    }

    private int had() {
        int n = 0;
        for (Child c : w.children) {
            n += c.spade ? 1 : 0;
        }
        return n;
    }

    int set(int what, int v) {
        int was = what == 0 ? wind : spadesInAll;
        if (what == 0 && v >= 0 && v <= 9) {
            wind = v;
            return was;
        }
        if (what == 1 && v >= 0 && v <= 8 && v >= had()) {
            spadesInAll = v;
            return was;
        }
        return -1;
    }

    int sheet(int kind, int n, int f, int step) {
        if (kind < 0 || kind > 3 || n > 8) {
            return -1;
        }
        if (kind < 3 && n < 0) {
            return -2;
        }
        int sum = 0;
        for (int i = 0; i < w.children.size(); i++) {
            int v = 0;
            if (kind < 3 && i < n) {
                v = f + i * step;
                v = kind == 0 ? (byte) v : kind == 1 ? (short) v : v;
                v = v < 0 ? 0 : v > 9 ? 9 : v;
            }
            w.children.get(i).mood = v;
            sum += v;
        }
        return kind == 3 ? -3 : sum;
    }

    // ---- acts

    private int done(World before, int answer) {
        if (answer >= 0) {
            past.push(before);
            if (past.size() > 15) {
                past.removeLast();
            }
        }
        return answer;
    }

    int go(int i, int c) {
        return done(w.copy(), goNow(i, c));
    }

    private int goNow(int i, int c) {
        if (!isChild(i) || !isCell(c)) {
            return -1;
        }
        Child k = w.children.get(i);
        if (k.mood == 0) {
            return -2;
        }
        if (k.at == c) {
            return -3;
        }
        int was = k.at;
        k.at = c;
        return was < 0 ? 0 : was + 1;
    }

    int home(int i) {
        return done(w.copy(), homeNow(i));
    }

    private int homeNow(int i) {
        if (!isChild(i)) {
            return -1;
        }
        int was = w.children.get(i).at;
        w.children.get(i).at = -1;
        return was < 0 ? -2 : was;
    }

    int spade(int i) {
        return done(w.copy(), spadeNow(i));
    }

    private int spadeNow(int i) {
        if (!isChild(i)) {
            return -1;
        }
        Child k = w.children.get(i);
        if (!k.spade && had() >= spadesInAll) {
            return -2;
        }
        k.spade = !k.spade;
        return had();
    }

    int treat(int i) {
        return done(w.copy(), treatNow(i));
    }

    private int treatNow(int i) {
        if (!isChild(i)) {
            return -1;
        }
        Child k = w.children.get(i);
        k.mood = Math.min(9, k.mood + 3);
        return k.mood;
    }

    int moat(int c) {
        return done(w.copy(), moatNow(c));
    }

    private int moatNow(int c) {
        if (!isCell(c)) {
            return -1;
        }
        w.moat[c] = !w.moat[c];
        return w.moats();
    }

    int build(int n) {
        return done(w.copy(), buildNow(n));
    }

    private int buildNow(int n) {
        if (n < 0 || n > 30) {
            return -1;
        }
        int before = w.homeBits();
        int added = 0;
        for (int k = 0; k < n; k++) {
            added += w.spell();
        }
        tell(w.homeBits() & ~before);
        return added;
    }

    int tide() {
        return done(w.copy(), tideNow());
    }

    private int tideNow() {
        int level = levelBy(rule, w, 0);
        int before = sum(w.depth);
        int broken = w.tideOf(level);
        tell(level, sum(w.depth) - before);
        return broken;
    }

    int pump(int n) {
        if (n < 1 || n > 99) {
            return -1;
        }
        World before = w.copy();
        for (int c = 0; c < w.cells(); c++) {
            w.depth[c] = Math.max(0, w.depth[c] - n);
        }
        return done(before, w.wetCount());
    }

    int summer() {
        String t = takeText();
        String used = t.length() > 60 ? t.substring(0, 60) : t;
        String form = "(g[a-h][a-l]|[hst][a-h]|m[a-l]|b[0-9]|w)*";
        int good = used.length();
        // A beginning can go on if some act that is cut could fill it up.
        while (!used.substring(0, good).matches(form + "(g[a-h]?|[hstmb])?")) {
            good--;
        }
        if (good < used.length() || t.length() > 60) {
            return -1 - good;
        }
        if (!used.matches(form)) {
            return -1 - used.length();
        }
        World before = w.copy();
        int acts = 0;
        boolean refused = false;
        for (int p = 0; p < used.length() && !refused;) {
            char kind = used.charAt(p);
            int x = p + 1 < used.length() ? used.charAt(p + 1) : 0;
            int answer;
            switch (kind) {
                case 'g': answer = goNow(x - 'a', used.charAt(p + 2) - 'a'); p += 3; break;
                case 'h': answer = homeNow(x - 'a'); p += 2; break;
                case 's': answer = spadeNow(x - 'a'); p += 2; break;
                case 't': answer = treatNow(x - 'a'); p += 2; break;
                case 'm': answer = moatNow(x - 'a'); p += 2; break;
                case 'b': answer = buildNow(x - '0'); p += 2; break;
                default: answer = tideNow(); p += 1; break;
            }
            refused = answer < 0;
            acts += refused ? 0 : 1;
        }
        if (acts > 0) {
            done(before, 0);
        }
        tell(refused ? 1 : 0, w.wetCount());
        return acts;
    }

    int undo() {
        if (past.isEmpty()) {
            return -1;
        }
        w = past.pop();
        return past.size();
    }

    // ---- what is to come

    int level(int n) {
        if (n < 0 || n > 99) {
            return -1;
        }
        int level = levelBy(rule, w, n);
        tell(w.low(level));
        return level;
    }

    int holds() {
        World t = w.copy();
        for (int k = 1; k <= 99; k++) {
            int level = levelBy(rule, t, 0);
            int broken = t.tideOf(level);
            if (broken != 0) {
                tell(broken, level);
                return k;
            }
        }
        return -2;
    }

    int tides(int n) {
        if (n < 0 || n > 60) {
            return -1;
        }
        World t = w.copy();
        int many = breaks(t, rule, n);
        tell(t.wetCount(), sum(t.depth));
        return many;
    }

    private int breaks(World t, String law, int n) {
        int many = 0;
        for (int k = 0; k < n; k++) {
            many += t.tideOf(levelBy(law, t, 0)) != 0 ? 1 : 0;
        }
        return many;
    }

    int spells() {
        for (int k = 0; k <= 30; k++) {
            World t = w.copy();
            for (int j = 0; j < k; j++) {
                t.spell();
            }
            if (t.tideOf(levelBy(rule, t, 0)) == 0) {
                return k;
            }
        }
        return -2;
    }

    private World flooded(int c, int v, int raised) {
        World t = w.copy();
        Arrays.fill(t.depth, 0);
        for (int k = 0; k < t.dyke.length; k++) {
            if ((raised >> k & 1) != 0) {
                t.dyke[k] = 9;
            }
        }
        t.depth[c] = v;
        t.waterGoesOn();
        return t;
    }

    int floods(int c, int v) {
        if (!isCell(c) || v < 1 || v > 999) {
            return -1;
        }
        World t = flooded(c, v, 0);
        tell(t.wetCount(), sum(t.depth));
        return t.wetBits();
    }

    int raise(int c, int v) {
        if (!isCell(c) || v < 1 || v > 999) {
            return -1;
        }
        int best = -1;
        for (int raised = 0; raised < 1 << w.dyke.length; raised++) {
            if ((best < 0 || Integer.bitCount(raised) < Integer.bitCount(best))
                    && flooded(c, v, raised).wetBits() == 1 << c) {
                best = raised;
            }
        }
        if (best < 0) {
            return -2;
        }
        tell(best);
        return Integer.bitCount(best);
    }

    // ---- who builds where

    int crew(int those, int n) {
        if (those < 0 || those >= 1 << w.children.size() || n < 1 || n > 9) {
            return -1;
        }
        if (Integer.bitCount(those) > 4) {
            return -3;
        }
        int[] at = new int[w.children.size()];
        long[] best = null;
        int fewest = 99;
        Arrays.fill(at, -1);
        boolean more = true;
        // All placements, the least row first.
        while (more) {
            int size = 0;
            for (int a : at) {
                size += a >= 0 ? 1 : 0;
            }
            if (size < fewest && crewHolds(at, n)) {
                fewest = size;
                best = Arrays.stream(at).asLongStream().toArray();
            }
            int i = at.length - 1;
            while (i >= 0 && (at[i] == w.cells() - 1 || (those >> i & 1) == 0 || w.children.get(i).mood == 0)) {
                at[i] = -1;
                i--;
            }
            more = i >= 0;
            if (more) {
                at[i]++;
            }
        }
        if (best == null) {
            return -2;
        }
        row = best;
        return fewest;
    }

    private boolean crewHolds(int[] at, int n) {
        World t = w.copy();
        for (int i = 0; i < at.length; i++) {
            t.children.get(i).at = at[i];
        }
        for (int k = 0; k < n; k++) {
            t.spell();
        }
        return t.tideOf(levelBy(rule, t, 0)) == 0;
    }

    int post(int i, int n) {
        if (!isChild(i) || n < 1 || n > 9) {
            return -1;
        }
        if (w.children.get(i).mood == 0) {
            return -2;
        }
        int best = -1;
        int most = 0;
        for (int c = 0; c < w.cells(); c++) {
            World t = w.copy();
            t.children.get(i).at = c;
            for (int k = 0; k < n; k++) {
                t.spell();
            }
            int least = Integer.MAX_VALUE;
            for (int d = 0; d < t.cells(); d++) {
                least = Math.min(least, t.top(d) - levelBy(rule, t, 0));
            }
            if (best < 0 || least > most) {
                best = c;
                most = least;
            }
        }
        tell(1000 + most);
        return best;
    }

    int moats(int k) {
        if (k < 0 || k > 4) {
            return -1;
        }
        if (k > w.cells()) {
            return -2;
        }
        World real = w;
        long[] was = row;
        int best = -1;
        int longest = -1;
        for (int those = 0; those < 1 << real.cells(); those++) {
            if (Integer.bitCount(those) == k) {
                w = real.copy();
                for (int c = 0; c < w.cells(); c++) {
                    w.moat[c] = (those >> c & 1) != 0;
                }
                int h = holds();
                h = h == -2 ? 100 : h;
                if (h > longest) {
                    longest = h;
                    best = those;
                }
            }
        }
        w = real;
        row = was;
        tell(best);
        return longest;
    }

    int spades() {
        int best = -1;
        int most = -1;
        for (int those = 0; those < 1 << w.children.size(); those++) {
            if (Integer.bitCount(those) <= spadesInAll) {
                World t = w.copy();
                int all = 0;
                for (int i = 0; i < t.children.size(); i++) {
                    t.children.get(i).spade = (those >> i & 1) != 0;
                    all += t.buckets(i);
                }
                if (all > most || all == most && Integer.bitCount(those) < Integer.bitCount(best)) {
                    most = all;
                    best = those;
                }
            }
        }
        tell(best);
        return most;
    }

    int treats(int n) {
        if (n < 1 || n > 9) {
            return -1;
        }
        long[] each = new long[w.children.size()];
        int all = 0;
        for (int i = 0; i < each.length; i++) {
            if (w.children.get(i).at < 0) {
                continue;
            }
            int t = 0;
            while (t <= 3 && !stays(i, t, n)) {
                t++;
            }
            if (t > 3) {
                return -2;
            }
            each[i] = t;
            all += t;
        }
        row = each;
        return all;
    }

    private boolean stays(int i, int treats, int n) {
        World t = w.copy();
        Child c = t.children.get(i);
        for (int k = 0; k < treats; k++) {
            c.mood = Math.min(9, c.mood + 3);
        }
        for (int k = 0; k < n; k++) {
            t.spell();
        }
        return c.at >= 0;
    }

    int work(int n) {
        if (n < 0 || n > 30) {
            return -1;
        }
        World t = w.copy();
        int all = 0;
        for (int k = 0; k < n; k++) {
            all += t.spell();
        }
        long[] each = new long[w.cells()];
        for (int c = 0; c < each.length; c++) {
            each[c] = t.wall[c] - w.wall[c];
        }
        row = each;
        return all;
    }

    int law() {
        String t = takeText();
        int bad = ruleFault(t);
        if (bad >= 0) {
            return -10000 - bad;
        }
        int other = breaks(w.copy(), t, 20);
        int own = breaks(w.copy(), rule, 20);
        tell(other, own);
        return other - own;
    }

    // ---- who built what

    private List<Integer> seenCells() {
        List<Integer> cells = new ArrayList<>();
        for (int c = 0; c < 12; c++) {
            if (seen[c] != null) {
                cells.add(c);
            }
        }
        return cells;
    }

    int seen(int c, int v) {
        if (!isCell(c) || v < 0 || v > 99 || seen[c] == null && seenCells().size() >= 4) {
            return -1;
        }
        seen[c] = v;
        return seenCells().size();
    }

    int forget() {
        int n = seenCells().size();
        seen = new Integer[12];
        return n;
    }

    private List<int[]> allWays() {
        List<int[]> found = new ArrayList<>();
        List<Integer> cells = seenCells();
        int n = w.children.size();
        int[] pick = new int[n];
        boolean more = true;
        while (more) {
            int[] built = new int[12];
            int[] at = new int[n];
            for (int i = 0; i < n; i++) {
                at[i] = pick[i] == 0 ? -1 : cells.get(pick[i] - 1);
                if (at[i] >= 0) {
                    built[at[i]] += w.children.get(i).skill;
                }
            }
            boolean fits = true;
            for (int c : cells) {
                fits &= built[c] == seen[c];
            }
            if (fits) {
                found.add(at);
            }
            int i = n - 1;
            while (i >= 0 && pick[i] == cells.size()) {
                pick[i] = 0;
                i--;
            }
            more = i >= 0;
            if (more) {
                pick[i]++;
            }
        }
        return found;
    }

    int ways() {
        List<int[]> all = allWays();
        row = all.isEmpty() ? new long[0] : Arrays.stream(all.get(0)).asLongStream().toArray();
        return all.size();
    }

    int was(int i) {
        if (!isChild(i)) {
            return -1;
        }
        int bits = 0;
        int none = 0;
        for (int[] at : allWays()) {
            if (at[i] < 0) {
                none = 1;
            } else {
                bits |= 1 << at[i];
            }
        }
        tell(none);
        return bits;
    }

    // ---- chance, rest

    int rain(int n, int k, int p) {
        if (n < 1 || n > 12 || k < 1 || k > 12 || p < 0 || p > 10) {
            return -1;
        }
        BigInteger upper = BigInteger.ZERO;
        for (int days = 0; days < 1 << n; days++) {
            int run = 0;
            int longest = 0;
            BigInteger cases = BigInteger.ONE;
            for (int d = 0; d < n; d++) {
                boolean rains = (days >> d & 1) != 0;
                run = rains ? run + 1 : 0;
                longest = Math.max(longest, run);
                cases = cases.multiply(BigInteger.valueOf(rains ? p : 10 - p));
            }
            if (longest >= k) {
                upper = upper.add(cases);
            }
        }
        BigInteger lower = BigInteger.TEN.pow(n);
        BigInteger g = upper.gcd(lower);
        tell(upper.divide(g).longValueExact(), lower.divide(g).longValueExact());
        return 0;
    }

    private static int gets(int own, int other, int v, int c) {
        return (own + other == 0 ? 0 : v * own / (own + other)) - c * own;
    }

    int rests(int v, int c) {
        if (v < 1 || v > 99 || c < 0 || c > 9) {
            return -1;
        }
        int many = 0;
        row = new long[0];
        for (int x = 0; x <= 9; x++) {
            for (int y = 0; y <= 9; y++) {
                boolean rest = true;
                for (int o = 0; o <= 9; o++) {
                    rest &= gets(o, y, v, c) <= gets(x, y, v, c) && gets(o, x, v, c) <= gets(y, x, v, c);
                }
                if (rest && many++ == 0) {
                    tell(x, y);
                }
            }
        }
        return many;
    }

    private long r;

    private int draw(int n) {
        r = r * 1103515245L + 12345L & 0xffffffffL;
        return (int) (r / 65536 % n);
    }

    int summers(int seed, int n) {
        if (n < 1 || n > 60) {
            return -1;
        }
        World t = w.copy();
        r = seed & 0xffffffffL;
        int broken = 0;
        for (int k = 0; k < n; k++) {
            int what = draw(4);
            if (what <= 1) {
                t.spell();
            } else if (what == 3) {
                broken += t.tideOf(levelBy(rule, t, 0)) != 0 ? 1 : 0;
            } else if (!t.children.isEmpty()) {
                Child c = t.children.get(draw(t.children.size()));
                int to = draw(t.cells());
                if (c.mood != 0) {
                    c.at = to;
                }
            }
        }
        tell(t.wetCount(), Integer.bitCount(t.homeBits()));
        return broken;
    }

    // ---- kept

    boolean keep(int i) {
        if (i < 0 || i > 2) {
            return false;
        }
        kept[i] = w.copy();
        return true;
    }

    boolean again(int i) {
        if (i < 0 || i > 2 || kept[i] == null || kept[i].children.size() != w.children.size()) {
            return false;
        }
        w = kept[i].copy();
        past.clear();
        return true;
    }

    int count(int what) {
        int bits = 0;
        switch (what) {
            case 0: return w.cells();
            case 1: return w.children.size();
            case 2: return w.tide;
            case 3: return wind;
            case 4: return spadesInAll;
            case 5:
                for (int i = 0; i < w.children.size(); i++) {
                    bits |= w.children.get(i).spade ? 1 << i : 0;
                }
                return bits;
            case 6:
                for (int c = 0; c < w.cells(); c++) {
                    bits |= w.moat[c] ? 1 << c : 0;
                }
                return bits;
            case 7: return w.wetBits();
            case 8: return w.homeBits();
            case 9: return sum(w.wall);
            case 10:
                for (int c : seenCells()) {
                    bits |= 1 << c;
                }
                return bits;
            case 11: return past.size();
            case 12: return row.length;
            case 13: return text.length();
            default: return -100;
        }
    }

    Long row(int i) {
        return i < 0 || i >= row.length ? null : row[i];
    }
}
