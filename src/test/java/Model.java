import java.util.ArrayList;
import java.util.Arrays;
import java.util.List;
import java.util.NoSuchElementException;
import java.util.function.ToIntFunction;
import java.util.function.Predicate;

/** The document once more, in the dullest way, for ModelTest: everything is tried out, nothing is clever. */
final class Model {
    static final int NO = -1;

    static final class Step implements Cloneable {
        int number, corner, kind, credit, fresh, old, empty, dry, note = NO;
        boolean dog;

        Step copy() {
            try {
                return (Step) clone();
            } catch (CloneNotSupportedException e) {
                throw new AssertionError(e);
            }
        }
    }

    static final class Line {
        String word;
        int n;
        Predicate<Step> when;
    }

    static final class World {
        List<Step> steps = new ArrayList<>();
        List<Integer> round = new ArrayList<>();
        int[][] road = new int[12][12];
        int charge = 60, crates = 20, price = 2, birds, frost, day, seed = 1, texts;
        List<Line> law;
        List<int[]> log = new ArrayList<>();

        World copy() {
            World w = new World();
            for (Step s : steps) w.steps.add(s.copy());
            w.round.addAll(round);
            for (int i = 0; i < 12; i++) w.road[i] = road[i].clone();
            w.charge = charge; w.crates = crates; w.price = price; w.birds = birds; w.frost = frost;
            w.day = day; w.seed = seed; w.texts = texts; w.law = law;
            w.log.addAll(log);
            return w;
        }
    }

    static final class Wrong extends RuntimeException {
        private static final long serialVersionUID = 1;
        final int at;
        Wrong(int at) { this.at = at; }
    }

    World w = new World();
    World image;
    List<World> past = new ArrayList<>();
    List<Integer> tape = new ArrayList<>();
    int fault = NO;

    // ---- tokens

    static final class Token {
        String text;
        int at;
        boolean is(String s) { return text.equals(s); }
    }

    private List<Token> tokens;
    private int next;

    private void cut() {
        tokens = new ArrayList<>();
        next = 0;
        int i = 0;
        while (i < tape.size()) {
            int c = tape.get(i);
            if (c == 32) { i++; continue; }
            int from = i;
            if (c >= 97 && c <= 122) while (i < tape.size() && tape.get(i) >= 97 && tape.get(i) <= 122) i++;
            else if (c >= 48 && c <= 57) while (i < tape.size() && tape.get(i) >= 48 && tape.get(i) <= 57) i++;
            else i++;
            Token t = new Token();
            t.at = from;
            StringBuilder b = new StringBuilder();
            for (int k = from; k < i; k++) b.append((char) (int) tape.get(k));
            t.text = b.toString();
            tokens.add(t);
        }
        Token last = new Token();
        last.text = "";
        last.at = tape.size();
        tokens.add(last);
    }

    private Token peek() { return tokens.get(next); }
    private Wrong wrong() { return new Wrong(peek().at); }
    private boolean eat(String s) { if (peek().is(s)) { next++; return true; } return false; }
    private void must(String s) { if (!eat(s)) throw wrong(); }
    private int num(int low, int high) {
        String t = peek().text;
        if (!t.matches("[0-9]{1,3}")) throw wrong();
        int v = Integer.parseInt(t);
        if (v < low || v > high) throw wrong();
        next++;
        return v;
    }

    // ---- texts

    int suburb() {
        World d = w.copy();
        cut();
        fault = NO;
        try {
            if (!peek().is("")) {
                int lines = 0;
                do {
                    if (++lines > 14) throw wrong();
                    suburbLine(d);
                } while (eat(";"));
                if (!peek().is("")) throw wrong();
            }
        } catch (Wrong e) {
            fault = e.at;
            tape.clear();
            throw new IllegalArgumentException();
        }
        tape.clear();
        if (w.texts == 12) throw new UnsupportedOperationException();
        w = d;
        past.clear();
        return ++w.texts;
    }

    private void suburbLine(World d) {
        Token first = peek();
        if (eat("step")) {
            if (d.steps.size() == 8) throw new Wrong(first.at);
            Step s = new Step();
            must("at"); s.corner = num(0, 11);
            must("credit"); s.credit = num(0, 999);
            if (eat("kind")) s.kind = num(0, 3);
            if (eat("fresh")) s.fresh = num(0, 9);
            if (eat("note")) s.note = num(0, 6);
            if (eat("dog")) s.dog = true;
            s.number = d.steps.size();
            d.steps.add(s);
            d.round.add(s.number);
        } else if (eat("road")) {
            int a = num(0, 11);
            Token t = peek();
            int b = num(0, 11);
            if (a == b) throw new Wrong(t.at);
            must("long");
            d.road[a][b] = d.road[b][a] = num(1, 9);
        } else if (eat("charge")) d.charge = num(0, 200);
        else if (eat("crates")) d.crates = num(0, 99);
        else if (eat("price")) d.price = num(0, 20);
        else if (eat("birds")) d.birds = num(0, 100);
        else if (eat("frost")) d.frost = num(0, 100);
        else if (eat("day")) d.day = num(0, 999);
        else throw wrong();
    }

    int law() {
        List<Line> lines = new ArrayList<>();
        cut();
        fault = NO;
        try {
            if (!peek().is("")) {
                do {
                    if (lines.size() == 12) throw wrong();
                    Line l = new Line();
                    l.word = peek().text;
                    if (!eat("bird") && !eat("break") && !eat("sour")) throw wrong();
                    l.n = num(0, 100);
                    l.when = eat("if") ? cond(0) : s -> true;
                    lines.add(l);
                } while (eat(";"));
                if (!peek().is("")) throw wrong();
            }
        } catch (Wrong e) {
            fault = e.at;
            tape.clear();
            throw new IllegalArgumentException();
        }
        tape.clear();
        w.law = lines;
        past.clear();
        return lines.size();
    }

    private Predicate<Step> cond(int deep) {
        Predicate<Step> p = all(deep);
        while (eat("or")) p = p.or(all(deep));
        return p;
    }

    private Predicate<Step> all(int deep) {
        Predicate<Step> p = atom(deep);
        while (eat("and")) p = p.and(atom(deep));
        return p;
    }

    private Predicate<Step> atom(int deep) {
        if (deep == 6 && (peek().is("not") || peek().is("("))) throw wrong();
        if (eat("not")) return atom(deep + 1).negate();
        if (eat("(")) { Predicate<Step> p = cond(deep + 1); must(")"); return p; }
        if (eat("dog")) return s -> s.dog;
        if (eat("noted")) return s -> s.note == asked.day % 7;
        ToIntFunction<Step> a = sum();
        boolean less = peek().is("<");
        if (!eat("<") && !eat(">")) throw wrong();
        ToIntFunction<Step> b = sum();
        return s -> less ? a.applyAsInt(s) < b.applyAsInt(s) : a.applyAsInt(s) > b.applyAsInt(s);
    }

    private ToIntFunction<Step> sum() {
        List<ToIntFunction<Step>> parts = new ArrayList<>();
        do parts.add(part()); while (eat("+"));
        return s -> parts.stream().mapToInt(p -> p.applyAsInt(s)).sum();
    }

    private ToIntFunction<Step> part() {
        if (eat("step")) return s -> s.number;
        if (eat("corner")) return s -> s.corner;
        if (eat("kind")) return s -> s.kind;
        if (eat("credit")) return s -> s.credit;
        if (eat("fresh")) return s -> s.fresh;
        if (eat("old")) return s -> s.old;
        if (eat("dry")) return s -> s.dry;
        if (eat("week")) return s -> asked.day % 7;
        int n = num(0, 999);
        return s -> n;
    }

    private World asked;

    private int weigh(World of, String word, Step s) {
        asked = of;
        int sum = 0;
        if (of.law != null) for (Line l : of.law) if (l.word.equals(word) && l.when.test(s)) sum += l.n;
        return sum;
    }

    int pecks(World of, Step s) { return of.birds + weigh(of, "bird", s); }
    int breaks(World of, Step s) { return of.frost + weigh(of, "break", s); }
    int sours(World of, Step s) { return weigh(of, "sour", s); }

    // ---- ways

    static int far(int[][] road, int from, int to) {
        int[] best = new int[12];
        Arrays.fill(best, 99999);
        best[from] = 0;
        for (int i = 0; i < 12; i++)
            for (int a = 0; a < 12; a++)
                for (int b = 0; b < 12; b++)
                    if (road[a][b] > 0 && best[a] + road[a][b] < best[b]) best[b] = best[a] + road[a][b];
        return best[to] == 99999 ? NO : best[to];
    }

    private int[][] farRoad;
    private int[][] farKept;

    int far(World of, int a, int b) {
        if (farRoad == null || !Arrays.deepEquals(farRoad, of.road)) {
            farRoad = of.copy().road;
            farKept = new int[12][12];
            for (int i = 0; i < 12; i++) for (int k = 0; k < 12; k++) farKept[i][k] = far(of.road, i, k);
        }
        return farKept[a][b];
    }

    int way(World of, List<Integer> order) {
        int at = 0, sum = 0;
        for (int s : order) {
            int f = far(of, at, of.steps.get(s).corner);
            if (f == NO) return NO;
            sum += f;
            at = of.steps.get(s).corner;
        }
        int home = far(of, at, 0);
        return home == NO ? NO : sum + home;
    }

    // ---- a morning

    static final class Trip {
        int came, gave, home, total;
        int[] left = new int[8];
    }

    Trip trip(World of, int charge, boolean leave) {
        Trip t = new Trip();
        int at = 0, have = charge, crates = of.crates;
        for (int i : of.round) {
            Step s = of.steps.get(i);
            int there = far(of, at, s.corner), back = far(of, s.corner, 0);
            if (there == NO || back == NO || have < there + back) continue;
            at = s.corner;
            have -= there;
            t.came |= 1 << i;
            int n = 0;
            for (int want = s.note == of.day % 7 ? 2 : 1; want > 0 && crates > 0; want--) {
                n++;
                crates--;
                if (!leave) continue;
                if (s.credit >= of.price) { s.credit -= of.price; if (s.fresh < 9) s.fresh++; }
                else if (s.old < 9) s.old++;
            }
            t.left[i] = n;
            t.total += n;
            if (n > 0) t.gave |= 1 << i;
            if (leave) {
                s.empty = 0;
                if (n > 0) of.log.add(new int[] {of.day, i, n, have});
                if (of.log.size() > 60) of.log.remove(0);
            }
        }
        t.home = have - far(of, at, 0);
        return t;
    }

    private static int draw(World of) {
        of.seed = (int) (1103515245L * of.seed + 12345L);
        return (of.seed >> 16) & 32767;
    }

    Trip morning(World of, boolean draws) {
        Trip t = trip(of, of.charge, true);
        if (draws) for (Step s : of.steps) {
            if (s.fresh == 0) continue;
            if (draw(of) % 100 < pecks(of, s)) { s.fresh--; if (s.old < 9) s.old++; }
            if (s.fresh == 0) continue;
            if (draw(of) % 100 < breaks(of, s)) s.fresh--;
        }
        for (Step s : of.steps) {
            if (s.old > 0) s.old--;
            else if (s.fresh > 0) s.fresh--;
            else { if (s.dry < 99) s.dry++; continue; }
            if (s.empty < 99) s.empty++;
            s.dry = 0;
        }
        for (Step s : of.steps) {
            s.old -= sours(of, s);
            if (s.old < 0) s.old = 0;
            s.old += s.fresh;
            if (s.old > 9) s.old = 9;
            s.fresh = 0;
        }
        if (of.day < 9999) of.day++;
        return t;
    }

    World later(int n, boolean draws, int seed) {
        World d = w.copy();
        d.seed = seed;
        for (int i = 0; i < n; i++) morning(d, draws);
        return d;
    }

    static int bottles(World of) {
        int sum = 0;
        for (Step s : of.steps) sum += s.fresh + s.old;
        return sum;
    }

    // ---- the face

    private Step need(int i) {
        if (i < 0 || i >= w.steps.size()) throw new IndexOutOfBoundsException();
        return w.steps.get(i);
    }
    private static void in(int i, int n) { if (i < 0 || i >= n) throw new IndexOutOfBoundsException(); }
    private static void arg(boolean right) { if (!right) throw new IllegalArgumentException(); }
    private void act() { past.add(w.copy()); if (past.size() > 12) past.remove(0); }
    private int bits(Predicate<Step> p) {
        int b = 0;
        for (Step s : w.steps) if (p.test(s)) b += 1 << s.number;
        return b;
    }
    private List<List<Integer>> orders(int set) {
        List<List<Integer>> all = new ArrayList<>();
        orders(set, new ArrayList<>(), all);
        return all;
    }
    private void orders(int set, List<Integer> so, List<List<Integer>> all) {
        if (set == 0) { all.add(new ArrayList<>(so)); return; }
        for (int i = 0; i < 8; i++) if ((set >> i & 1) == 1) {
            so.add(i);
            orders(set & ~(1 << i), so, all);
            so.remove(so.size() - 1);
        }
    }
    private int all() { return (1 << w.steps.size()) - 1; }

    int feed(int a, int b, int c, int d, int e) {
        if (tape.size() > 380) return NO;
        for (int n : new int[] {a, b, c, d, e}) for (int k = 3; k >= 0; k--) tape.add(n >> 8 * k & 255);
        return tape.size();
    }
    boolean end(int n) {
        if (n < 0 || n > tape.size()) return false;
        while (tape.size() > n) tape.remove(tape.size() - 1);
        return true;
    }
    int fault() { return fault; }
    int step(int i, int what) {
        Step s = need(i);
        switch (what) {
            case 0: return s.corner;
            case 1: return s.kind;
            case 2: return s.credit;
            case 3: return s.fresh;
            case 4: return s.old;
            case 5: return s.empty;
            case 6: return s.dry;
            case 7: return s.note;
            case 8: return s.dog ? 1 : 0;
            case 9: return pecks(w, s);
            case 10: return breaks(w, s);
            case 11: return sours(w, s);
            case 12: {
                int sum = w.steps.stream().mapToInt(x -> x.credit).sum();
                return sum == 0 ? 0 : s.credit * 100 / sum;
            }
            case 13: {
                int own = far(w, 0, s.corner);
                return own == NO ? 0 : (int) w.steps.stream().filter(x -> far(w, 0, x.corner) > own).count();
            }
            case 14: return w.round.indexOf(i);
            default: throw new NoSuchElementException();
        }
    }
    int far(int a, int b) { in(a, 12); in(b, 12); return far(w, a, b); }
    int road(int a, int b) { in(a, 12); in(b, 12); return w.road[a][b] == 0 ? NO : w.road[a][b]; }
    int round(int p) { need(p); return w.round.get(p); }
    int mornings(int n) {
        arg(n >= 1 && n <= 60);
        act();
        int sum = 0;
        for (int i = 0; i < n; i++) sum += morning(w, true).total;
        return sum;
    }
    int pay(int i, int n) {
        Step s = need(i);
        arg(n >= 1 && n <= 999);
        act();
        return s.credit = s.credit + n > 9999 ? 9999 : s.credit + n;
    }
    int note(int i, int day) {
        Step s = need(i);
        in(day + 1, 8);
        act();
        int was = s.note;
        s.note = day;
        return was;
    }
    int kind(int i, int kind) {
        Step s = need(i);
        in(kind, 4);
        act();
        int was = s.kind;
        s.kind = kind;
        return was;
    }
    int change(int a, int b) {
        need(a); need(b); arg(a != b);
        act();
        int x = w.round.get(a);
        w.round.set(a, w.round.get(b));
        w.round.set(b, x);
        return w.round.get(a);
    }
    int charge(int n) { arg(n >= 0 && n <= 200); act(); int was = w.charge; w.charge = n; return was; }
    int crates(int n) { arg(n >= 0 && n <= 99); act(); int was = w.crates; w.crates = n; return was; }
    int lend(int a, int b) {
        Step s = need(a), o = need(b);
        arg(a != b);
        if (s.old > 0) {
            if (o.old == 9) throw new IllegalStateException();
            act();
            s.old--; o.old++;
            return 0;
        }
        if (s.fresh == 0 || o.fresh == 9) throw new IllegalStateException();
        act();
        s.fresh--; o.fresh++;
        return 1;
    }
    int leaves() { return trip(w, w.charge, false).came; }
    int passed() { return all() - leaves(); }
    int home() { return trip(w, w.charge, false).home; }
    int way() { return way(w, w.round); }
    int shortest(int k) {
        int best = NO;
        List<Integer> order = null;
        for (List<Integer> o : orders(all())) {
            int v = way(w, o);
            if (v == NO) return NO;
            if (best == NO || v < best) { best = v; order = o; }
        }
        if (k == NO) return best;
        return k >= 0 && k < order.size() ? order.get(k) : NO;
    }
    int most() {
        int best = 0;
        for (int set = 1; set <= all(); set++) {
            if (Integer.bitCount(set) <= Integer.bitCount(best)) continue;
            for (List<Integer> o : orders(set)) {
                int v = way(w, o);
                if (v != NO && v <= w.charge) { best = set; break; }
            }
        }
        return best;
    }
    int least() {
        for (int c = 0; c <= 200; c++) if (trip(w, c, false).came == all()) return c;
        return NO;
    }
    int dairy() {
        int best = NO, who = NO;
        if (w.steps.isEmpty()) return NO;
        for (int c = 0; c < 12; c++) {
            int sum = 0;
            for (Step s : w.steps) {
                int f = far(w, c, s.corner);
                if (f == NO) { sum = NO; break; }
                sum += f;
            }
            if (sum != NO && (best == NO || sum < best)) { best = sum; who = c; }
        }
        return who;
    }
    private int reached(int[][] road) {
        int b = 0;
        for (Step s : w.steps) if (far(road, 0, s.corner) != NO) b |= 1 << s.number;
        return b;
    }
    int bridges() {
        int n = 0, now = reached(w.road);
        for (int a = 0; a < 12; a++) for (int b = a + 1; b < 12; b++) if (w.road[a][b] > 0) {
            int[][] r = w.copy().road;
            r[a][b] = r[b][a] = 0;
            if (reached(r) != now) n++;
        }
        return n;
    }
    int cut(int corner) {
        in(corner, 12);
        int[][] r = w.copy().road;
        for (int i = 0; i < 12; i++) r[i][corner] = r[corner][i] = 0;
        int b = all() & ~reached(r);
        for (Step s : w.steps) if (s.corner == corner || corner == 0) b |= 1 << s.number;
        return b;
    }
    int dries(boolean who) {
        for (int n = 1; n <= 60; n++)
            for (Step s : later(n, false, 1).steps) if (s.dry > 0) return who ? s.number : n;
        return NO;
    }
    int owes(int i) {
        need(i);
        for (int n = 0; n <= 60; n++) {
            World d = later(n, false, 1);
            if (d.steps.get(i).credit < d.price) return n;
        }
        return NO;
    }
    int pays(int i, int n) {
        Step s = need(i);
        arg(n >= 0 && n <= 60);
        int was = s.credit;
        int found = NO;
        for (int c = 0; c <= 999 && found == NO; c++) {
            s.credit = c;
            if (later(n, false, 1).steps.get(i).credit >= w.price) found = c;
        }
        s.credit = was;
        return found;
    }
    int holds(int n) { arg(n >= 0 && n <= 60); return bottles(later(n, false, 1)); }

    private List<Integer> fits() {
        boolean right = tape.size() % 2 == 0 && tape.size() <= 40;
        for (int i = 0; right && i < tape.size(); i += 2)
            right = tape.get(i) < w.steps.size() && tape.get(i + 1) <= 1;
        List<Integer> told = new ArrayList<>(tape);
        tape.clear();
        arg(right);
        List<Integer> fits = new ArrayList<>();
        for (int c = 0; c <= 200; c++) {
            Trip t = trip(w, c, false);
            boolean fit = true;
            for (int i = 0; i < told.size(); i += 2) if ((t.gave >> told.get(i) & 1) != told.get(i + 1)) fit = false;
            if (fit) fits.add(c);
        }
        return fits;
    }
    int seen(boolean low) {
        List<Integer> f = fits();
        return !low ? f.size() : f.isEmpty() ? NO : f.get(0);
    }
    int ask() {
        List<Integer> f = fits();
        if (f.size() < 2) return NO;
        int best = NO, who = NO;
        for (Step s : w.steps) {
            int yes = 0;
            for (int c : f) if ((trip(w, c, false).gave >> s.number & 1) == 1) yes++;
            int v = Math.max(yes, f.size() - yes);
            if (best == NO || v < best) { best = v; who = s.number; }
        }
        return who;
    }

    private int[] bestMates;
    private int bestPairs, bestFar;
    private void mates(int[] so, int from, int pairs, int fars) {
        while (from < so.length && so[from] != NO) from++;
        if (from == so.length) {
            if (bestMates == null || pairs > bestPairs || pairs == bestPairs && fars < bestFar
                    || pairs == bestPairs && fars == bestFar && Arrays.compare(so, bestMates) < 0) {
                bestMates = so.clone(); bestPairs = pairs; bestFar = fars;
            }
            return;
        }
        so[from] = 99;
        mates(so, from + 1, pairs, fars);
        for (int k = from + 1; k < so.length; k++) {
            if (so[k] != NO) continue;
            int f = far(w, w.steps.get(from).corner, w.steps.get(k).corner);
            if (f == NO) continue;
            so[from] = k; so[k] = from;
            mates(so, from + 1, pairs + 1, fars + f);
            so[k] = NO;
        }
        so[from] = NO;
    }
    private void mates() {
        int[] so = new int[w.steps.size()];
        Arrays.fill(so, NO);
        bestMates = null;
        mates(so, 0, 0, 0);
    }
    int neighbours(boolean far) { mates(); return far ? bestFar : bestPairs; }
    int neighbour(int i) { need(i); mates(); return bestMates[i] == 99 ? NO : bestMates[i]; }

    int gutter(int i, int n) {
        need(i);
        arg(n >= 0 && n <= 99);
        int[] had = new int[w.steps.size()];
        for (; n > 0; n--) {
            int who = 0;
            for (Step s : w.steps) if (s.dry - 2 * had[s.number] > w.steps.get(who).dry - 2 * had[who]) who = s.number;
            had[who]++;
        }
        return had[i];
    }
    private int gain(Step s, Step o, boolean keep, boolean otherKeeps) {
        int v;
        if (keep) { v = s.old + s.old; if (otherKeeps) v += 3; }
        else { v = s.fresh + s.fresh + s.old; if (otherKeeps) v -= o.old; }
        return v;
    }
    int rests(int i, int k) {
        Step a = need(i), b = need(k);
        arg(i != k);
        int set = 0;
        for (int c = 0; c < 4; c++) {
            boolean x = c >= 2, y = c % 2 == 1;
            if (gain(a, b, !x, y) > gain(a, b, x, y)) continue;
            if (gain(b, a, !y, x) > gain(b, a, y, x)) continue;
            set |= 1 << c;
        }
        return set;
    }
    private int changed(int a, int b) {
        List<Integer> r = new ArrayList<>(w.round);
        r.set(a, w.round.get(b));
        r.set(b, w.round.get(a));
        return way(w, r);
    }
    int cross() {
        int now = way(), n = 0;
        if (now == NO) return 0;
        for (int p = 1; p < w.round.size(); p++) if (changed(p - 1, p) < now) n++;
        return n;
    }
    int swap() {
        int least = way(), who = NO;
        if (least == NO) return NO;
        for (int a = 0; a < w.round.size(); a++) for (int b = a + 1; b < w.round.size(); b++)
            if (changed(a, b) < least) { least = changed(a, b); who = 8 * a + b; }
        return who;
    }
    int foil(int k) { in(k, 4); return bits(s -> s.kind == k); }
    int dogs() { return bits(s -> s.dog); }
    int noted(int d) { in(d, 7); return bits(s -> s.note == d); }
    int thirsty() {
        int best = 0, who = NO;
        for (Step s : w.steps) if (s.dry > best) { best = s.dry; who = s.number; }
        return who;
    }
    int rich() {
        int best = -1, who = NO;
        for (Step s : w.steps) if (s.credit > best) { best = s.credit; who = s.number; }
        return who;
    }
    int odds(int i, int n) {
        Step s = need(i);
        arg(n >= 0 && n <= 4);
        int b = breaks(w, s), o = 10000;
        if (b > 100) b = 100;
        while (n-- > 0) o = o * (100 - b) / 100;
        return o;
    }
    int twins() {
        int n = 0;
        for (Step a : w.steps) for (Step b : w.steps)
            if (a.number < b.number && a.corner == b.corner && a.kind == b.kind) n++;
        return n;
    }
    int ahead(int i, int n, int what) {
        need(i);
        arg(n >= 0 && n <= 60);
        if (what < 0 || what > 3) throw new NoSuchElementException();
        Step s = later(n, false, 1).steps.get(i);
        return what == 0 ? s.fresh : what == 1 ? s.old : what == 2 ? s.credit : s.dry;
    }
    int trial(int n, boolean dry) {
        arg(n >= 0 && n <= 60);
        World d = later(n, true, w.seed);
        if (!dry) return bottles(d);
        int b = 0;
        for (Step s : d.steps) if (s.dry > 0) b += 1 << s.number;
        return b;
    }
    int span(int n, boolean most) {
        arg(n >= 0 && n <= 60);
        int low = 9999, high = 0;
        for (int seed = 1; seed <= 6; seed++) {
            int b = bottles(later(n, true, seed));
            low = Math.min(low, b);
            high = Math.max(high, b);
        }
        return most ? high : low;
    }
    int led(int i, boolean day) {
        need(i);
        int n = 0, d = NO;
        for (int[] row : w.log) if (row[1] == i) { n++; d = row[0]; }
        return day ? d : n;
    }
    int log(int ago, int what) {
        if (what < 0 || what > 3) throw new NoSuchElementException();
        return ago < 0 || ago >= w.log.size() ? NO : w.log.get(w.log.size() - 1 - ago)[what];
    }
    int seed(int n) { int was = w.seed; w.seed = n; return was; }
    boolean undo() {
        if (past.isEmpty()) return false;
        w = past.remove(past.size() - 1);
        return true;
    }
    void image() { image = w.copy(); }
    boolean back() {
        if (image == null) return false;
        w = image.copy();
        past.clear();
        return true;
    }
    int count(int what) {
        int roads = 0;
        for (int a = 0; a < 12; a++) for (int b = a + 1; b < 12; b++) if (w.road[a][b] > 0) roads++;
        int[] all = {w.steps.size(), w.texts, w.law == null ? NO : w.law.size(), w.day, w.charge, w.crates, w.price,
            w.birds, w.frost, roads, w.steps.stream().mapToInt(s -> s.fresh).sum(),
            w.steps.stream().mapToInt(s -> s.old).sum(), w.log.size(), past.size()};
        return what >= 0 && what < all.length ? all[what] : NO;
    }
}
