import java.util.concurrent.Callable;

/** Long runs of calls, the same on the class and on the dull Model, every answer compared. */
final class ModelTest {
    private static final int RUNS = Integer.getInteger("runs", 250);
    private static final int CALLS = 500;

    private static long state;
    private static int wrong;

    private static int any(int n) {
        state = state * 6364136223846793005L + 1442695040888963407L;
        return (int) ((state >>> 33) % n);
    }

    private static boolean chance(int percent) {
        return any(100) < percent;
    }

    // Mostly a number that is one, now and then one beside the bounds or far off.
    private static int near(int low, int high) {
        if (chance(4)) return chance(50) ? low - 1 : high + 1;
        if (chance(1)) return chance(50) ? Integer.MAX_VALUE : Integer.MIN_VALUE;
        return low + any(Math.max(1, high - low + 1));
    }

    private static String pick(String... all) {
        return all[any(all.length)];
    }

    private static String number(int low, int high) {
        int n = chance(2) ? high + 1 : low + any(high - low + 1);
        return chance(3) ? pick("00", "0", "000") + n : "" + n;
    }

    private static String gap() {
        return chance(8) ? pick("", "  ") : " ";
    }

    private static int corners;

    private static String suburbLine() {
        int which = any(20);
        if (which < 6) {
            return "step at " + number(0, corners - 1) + gap() + "credit" + gap() + number(0, chance(50) ? 60 : 999)
                + (chance(50) ? " kind " + number(0, 3) : "") + (chance(40) ? " fresh " + number(0, 9) : "")
                + (chance(40) ? gap() + "note " + number(0, 6) : "") + (chance(30) ? " dog" : "");
        }
        if (which < 14) {
            return "road " + number(0, corners - 1) + " " + number(0, corners - 1) + gap() + "long" + gap() + number(1, 9);
        }
        switch (which) {
            case 14: return "charge" + gap() + number(0, 200);
            case 15: return "crates" + gap() + (chance(50) ? number(0, 99) : number(0, 8));
            case 16: return "price" + gap() + number(0, 20);
            case 17: return "birds" + gap() + number(0, 100);
            case 18: return "frost" + gap() + number(0, 100);
            default: return "day" + gap() + number(0, 999);
        }
    }

    private static String lines(boolean law) {
        if (chance(4)) return pick("", " ", "   ", ";", " ;");
        StringBuilder b = new StringBuilder(chance(10) ? " " : "");
        int most = chance(5) ? 16 : law ? 6 : 12;
        int n = 1 + any(most);
        for (int i = 0; i < n; i++) {
            if (i > 0) b.append(chance(10) ? " ; " : ";");
            String line = law ? lawLine() : suburbLine();
            if (b.length() + line.length() > 390) break;
            b.append(line);
        }
        if (chance(3)) b.append(' ');
        if (chance(4) && b.length() > 0) {
            int at = any(b.length());
            int how = any(4);
            if (how == 0) b.setLength(at);
            else if (how == 1) b.deleteCharAt(at);
            else if (how == 2) b.setCharAt(at, (char) any(256));
            else b.insert(at, pick(" ", ";", "(", ")", "x", "9", "not ", "dog "));
        }
        return b.length() > 400 ? b.substring(0, 400) : b.toString();
    }

    private static String lawLine() {
        return pick("bird ", "break ", "sour ") + number(0, chance(70) ? 20 : 100) + (chance(70) ? " if " + choice(0) : "");
    }

    private static String choice(int depth) {
        String s = all(depth);
        for (int i = 0; i < 2 && chance(20); i++) s += " or " + all(depth);
        return s;
    }

    private static String all(int depth) {
        String s = atom(depth);
        for (int i = 0; i < 2 && chance(20); i++) s += " and " + atom(depth);
        return s;
    }

    private static String atom(int depth) {
        int most = chance(10) ? 8 : 4;
        if (depth < most && chance(30)) return chance(50) ? "not " + atom(depth + 1) : "(" + choice(depth + 1) + ")";
        if (chance(20)) return pick("dog", "noted");
        return sum() + pick("<", ">", " < ", " > ") + sum();
    }

    private static String sum() {
        String s = part();
        for (int i = 0; i < 2 && chance(30); i++) s += pick("+", " + ") + part();
        return s;
    }

    private static String part() {
        if (chance(40)) return number(0, chance(70) ? 10 : 999);
        return pick("step", "corner", "kind", "credit", "fresh", "old", "dry", "week");
    }

    private static String trace;

    private static void both(String call, Callable<?> one, Callable<?> other) {
        Object got = answer(one);
        Object due = answer(other);
        if (!got.equals(due)) {
            wrong++;
            System.out.println(trace + call + " answered " + got + ", due is " + due);
        }
    }

    private static Object answer(Callable<?> call) {
        try {
            return call.call();
        } catch (Exception e) {
            return e.getClass().getName();
        }
    }

    private static void tape(MilkDays x, Model m, byte[] bytes) {
        both("end", () -> x.end(0), () -> m.end(0));
        for (int i = 0; i < bytes.length; i += 20) {
            int[] n = new int[5];
            for (int k = 0; k < 20; k++) {
                n[k / 4] = n[k / 4] << 8 | (i + k < bytes.length ? bytes[i + k] & 255 : any(256));
            }
            both("feed", () -> x.feed(n[0], n[1], n[2], n[3], n[4]), () -> m.feed(n[0], n[1], n[2], n[3], n[4]));
        }
        both("end", () -> x.end(bytes.length), () -> m.end(bytes.length));
    }

    private static void text(MilkDays x, Model m, boolean law) {
        String text = lines(law);
        byte[] bytes = new byte[text.length()];
        for (int i = 0; i < bytes.length; i++) bytes[i] = (byte) text.charAt(i);
        tape(x, m, bytes);
        if (law) both("law " + text, x::law, m::law);
        else both("suburb " + text, x::suburb, m::suburb);
        both("fault " + text, x::fault, m::fault);
    }

    private static void told(MilkDays x, Model m) {
        int steps = m.w.steps.size();
        byte[] bytes = new byte[chance(5) ? 36 + any(8) : 2 * any(4) + (chance(3) ? 1 : 0)];
        for (int i = 0; i < bytes.length; i++) {
            bytes[i] = (byte) (i % 2 == 0 ? any(Math.max(1, steps) + (chance(3) ? 1 : 0)) : any(chance(2) ? 3 : 2));
        }
        tape(x, m, bytes);
        boolean low = chance(50);
        if (chance(60)) both("seen " + low, () -> x.seen(low), () -> m.seen(low));
        else both("ask", x::ask, m::ask);
        both("fault", x::fault, m::fault);
    }

    private static void acts(MilkDays x, Model m) {
        int top = m.w.steps.size() - 1;
        int s = near(0, top), o = near(0, top), a = any(10);
        int n = chance(60) ? 1 + any(3) : near(1, 60);
        switch (a) {
            case 0: case 1: both("mornings " + n, () -> x.mornings(n), () -> m.mornings(n)); break;
            case 2: { int p = near(1, 999); both("pay", () -> x.pay(s, p), () -> m.pay(s, p)); break; }
            case 3: { int d = near(-1, 6); both("note", () -> x.note(s, d), () -> m.note(s, d)); break; }
            case 4: { int k = near(0, 3); both("kind", () -> x.kind(s, k), () -> m.kind(s, k)); break; }
            case 5: both("change", () -> x.change(s, o), () -> m.change(s, o)); break;
            case 6: { int c = near(0, chance(50) ? 60 : 200); both("charge", () -> x.charge(c), () -> m.charge(c)); break; }
            case 7: { int c = chance(70) ? near(0, 9) : near(0, 99); both("crates", () -> x.crates(c), () -> m.crates(c)); break; }
            default: both("lend", () -> x.lend(s, o), () -> m.lend(s, o));
        }
    }

    private static void roundabout(MilkDays x, Model m) {
        int a = any(12);
        if (a < 5) both("undo", x::undo, m::undo);
        else if (a < 7) both("image", () -> { x.image(); return 0; }, () -> { m.image(); return 0; });
        else if (a < 8) both("back", x::back, m::back);
        else if (a < 10) { int n = chance(50) ? any(9) : any(Integer.MAX_VALUE) * (chance(50) ? 1 : -1); both("seed", () -> x.seed(n), () -> m.seed(n)); }
        else if (a < 11) { int n = near(-1, 40); both("end", () -> x.end(n), () -> m.end(n)); }
        else for (int i = any(25); i >= 0; i--) { int n = any(1 << 30); both("feed", () -> x.feed(n, n, n, n, n), () -> m.feed(n, n, n, n, n)); }
    }

    private static void costly(MilkDays x, Model m) {
        int top = m.w.steps.size() - 1;
        int s = near(0, top), n = near(0, 60), k = near(-1, top + 1);
        boolean b = chance(50);
        switch (any(6)) {
            case 0: both("shortest " + k, () -> x.shortest(k), () -> m.shortest(k)); break;
            case 1: both("most", x::most, m::most); break;
            case 2: both("pays " + s + " " + n, () -> x.pays(s, n), () -> m.pays(s, n)); break;
            case 3: both("dries " + b, () -> x.dries(b), () -> m.dries(b)); break;
            case 4: both("owes " + s, () -> x.owes(s), () -> m.owes(s)); break;
            default: both("span " + n + b, () -> x.span(n, b), () -> m.span(n, b));
        }
    }

    private static void asked(MilkDays x, Model m) {
        int top = m.w.steps.size() - 1;
        int s = near(0, top), o = near(0, top), c = near(0, 11), d = near(0, 11), n = chance(50) ? any(6) : near(0, 60);
        int what = near(0, 14);
        boolean b = chance(50);
        switch (any(34)) {
            case 0: both("step " + s + " " + what, () -> x.step(s, what), () -> m.step(s, what)); break;
            case 1: both("far", () -> x.far(c, d), () -> m.far(c, d)); break;
            case 2: both("road", () -> x.road(c, d), () -> m.road(c, d)); break;
            case 3: both("round", () -> x.round(s), () -> m.round(s)); break;
            case 4: both("leaves", x::leaves, m::leaves); break;
            case 5: both("passed", x::passed, m::passed); break;
            case 6: both("home", x::home, m::home); break;
            case 7: both("way", x::way, m::way); break;
            case 8: both("least", x::least, m::least); break;
            case 9: both("dairy", x::dairy, m::dairy); break;
            case 10: both("bridges", x::bridges, m::bridges); break;
            case 11: both("cut", () -> x.cut(c), () -> m.cut(c)); break;
            case 12: both("holds", () -> x.holds(n), () -> m.holds(n)); break;
            case 13: both("neighbours", () -> x.neighbours(b), () -> m.neighbours(b)); break;
            case 14: both("neighbour", () -> x.neighbour(s), () -> m.neighbour(s)); break;
            case 15: { int g = near(0, 99); both("gutter", () -> x.gutter(s, g), () -> m.gutter(s, g)); break; }
            case 16: both("rests", () -> x.rests(s, o), () -> m.rests(s, o)); break;
            case 17: both("cross", x::cross, m::cross); break;
            case 18: both("swap", x::swap, m::swap); break;
            case 19: { int k = near(0, 3); both("foil", () -> x.foil(k), () -> m.foil(k)); break; }
            case 20: both("dogs", x::dogs, m::dogs); break;
            case 21: { int k = near(0, 6); both("noted", () -> x.noted(k), () -> m.noted(k)); break; }
            case 22: both("thirsty", x::thirsty, m::thirsty); break;
            case 23: both("rich", x::rich, m::rich); break;
            case 24: { int k = near(0, 4); both("odds", () -> x.odds(s, k), () -> m.odds(s, k)); break; }
            case 25: both("twins", x::twins, m::twins); break;
            case 26: { int k = near(0, 3); both("ahead", () -> x.ahead(s, n, k), () -> m.ahead(s, n, k)); break; }
            case 27: both("trial " + n + b, () -> x.trial(n, b), () -> m.trial(n, b)); break;
            case 28: both("led", () -> x.led(s, b), () -> m.led(s, b)); break;
            case 29: { int g = near(0, chance(50) ? 5 : 60), k = near(0, 3); both("log", () -> x.log(g, k), () -> m.log(g, k)); break; }
            case 30: { int k = near(0, 13); both("count " + k, () -> x.count(k), () -> m.count(k)); break; }
            default: told(x, m);
        }
    }

    private static void every(MilkDays x, Model m) {
        for (int s = 0; s < m.w.steps.size(); s++) {
            int step = s;
            for (int k = 0; k <= 14; k++) { int what = k; both("step " + s + " " + k, () -> x.step(step, what), () -> m.step(step, what)); }
        }
        for (int k = 0; k <= 13; k++) { int what = k; both("count " + k, () -> x.count(what), () -> m.count(what)); }
    }

    private static void run(int number) {
        state = number * 7919L + 17;
        for (int i = 0; i < 5; i++) any(2);
        trace = "run " + number + ": ";
        corners = 2 + any(11);
        MilkDays x = new MilkDays();
        Model m = new Model();
        int texts = 1 + any(6);
        for (int i = 0; i < texts; i++) text(x, m, chance(20));
        for (int i = 0; i < CALLS && wrong == 0; i++) {
            trace = "run " + number + ", call " + i + ": ";
            int a = any(100);
            if (a < 2) text(x, m, chance(40));
            else if (a < 30) acts(x, m);
            else if (a < 36) roundabout(x, m);
            else if (a < 38) costly(x, m);
            else if (a < 40) every(x, m);
            else asked(x, m);
        }
    }

    public static void main(String[] args) {
        for (int i = 0; i < RUNS && wrong == 0; i++) run(i);
        System.out.println("ModelTest: " + RUNS + " runs of " + CALLS + " turns, " + wrong + " wrong");
        if (wrong > 0) System.exit(1);
    }
}
