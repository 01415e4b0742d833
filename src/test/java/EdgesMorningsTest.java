/**
 * Sentence by sentence, the cases at the bounds: how a MORNING goes, DRAWS, AHEAD, ACTS, THE LOG, UNDONE and
 * THE IMAGE (promises 11 to 18 and 48 to 56).
 */
final class EdgesMorningsTest extends Edges {
    // A STEP to which no ROAD goes, with all the bottles that it can have.
    private static final String FAR_OFF = "step at 5 credit 0 fresh 9";

    /** 0 to 1 is 3, 0 to 2 is 4, 1 to 2 is 7 FAR; the fourth STEP cannot be reached. */
    private static MilkDays round(int charge) {
        return suburb("road 0 1 long 3;road 0 2 long 4;" + steps(1, 2, 1) + ";"
            + steps(9, 1) + ";charge " + charge);
    }

    /** LEAVES and HOME, as one number. */
    private static int trip(MilkDays x) {
        return x.leaves() * 1000 + x.home();
    }

    // ---- (a)

    private static void theFloatGoes() {
        // Terms: "if it can come from where it is to that CORNER and from there home (to CORNER 0), and has as much left as both
        // are FAR together, it goes there (it has as much less as that is FAR), else that STEP is passed over"
        due(trip(round(200)), 23180);
        due(trip(round(20)), 23000);
        due(trip(round(19)), 3005);
        due(trip(round(14)), 3000);
        due(trip(round(13)), 21007);
        due(trip(round(6)), 21000);
        due(trip(round(5)), 5);
        due(trip(round(0)), 0);
        due(round(200).passed(), 8);
        due(round(5).passed(), 31);
        // Terms: "A MORNING: (a) the float is at CORNER 0 with CHARGE and CRATES; to each STEP of THE ROUND, one behind another"
        MilkDays x = round(14);
        due(x.mornings(3), 6);
        due(x.count(CHARGE) * 100 + x.count(CRATES), 1420);
        x.change(0, 1);
        due(trip(x), 23000);
        x.charge(13);
        due(trip(x), 2005);
        // Terms: "bottles on the float each morning."
        x.crates(3);
        due(x.mornings(5), 5);
        x.charge(200);
        due(x.mornings(5), 15);
    }

    private static void bottlesAreLeft() {
        // Terms: "it leaves there 1 bottle, with a NOTE for that day 2, at most as many as are on the float"
        MilkDays x = suburb("step at 0 credit 9 note 0;step at 0 credit 9 note 0;step at 0 credit 9 note 0;step at 0 credit 9 note 1;crates 3");
        due(x.leaves(), 15);
        due(x.mornings(1), 3);
        due(x.log(0, 1) * 10 + x.log(0, 2), 11);
        due(x.log(1, 1) * 10 + x.log(1, 2), 2);
        due(x.count(ROWS), 2);
        due(x.mornings(1), 3);
        due(x.log(0, 1) * 10 + x.log(0, 2), 21);
        x.crates(99);
        due(x.mornings(1), 4);
        x.crates(1);
        due(x.mornings(2), 2);
        x.crates(0);
        due(x.mornings(2), 0);
        // Terms: "its day of the week: DAY modulo 7."
        due(suburb("step at 0 credit 99 note 6;day 6").mornings(1), 2);
        due(suburb("step at 0 credit 99 note 6;day 7").mornings(1), 1);
        due(suburb("step at 0 credit 99 note 0;day 7").mornings(1), 2);
        // Terms: "for each of these: if CREDIT is PRICE at least, it is PRICE less, and FRESH is 1 more, else OLD is 1 more"
        MilkDays y = law(suburb("step at 0 credit 10 note 0;step at 0 credit 9 note 0;step at 0 credit 4 note 0;price 5"), "sour 9");
        due(y.mornings(1), 6);
        // What is OLD sours, what was FRESH is OLD now: two FRESH, one of each, two OLD; one is drunk.
        due(bottles(y, 0) + " " + y.step(0, CREDIT), "10100 0");
        due(bottles(y, 1) + " " + y.step(1, CREDIT), "10100 4");
        due(bottles(y, 2) + " " + y.step(2, CREDIT), "100 4");
        MilkDays z = law(suburb("step at 0 credit 0 note 0;price 0"), "sour 9");
        z.mornings(1);
        due(bottles(z, 0) + " " + z.step(0, CREDIT), "10100 0");
        // Terms: "EMPTY is 0 then": also where none was on the float any more
        MilkDays e = suburb("road 0 1 long 1;step at 1 credit 0 fresh 9;charge 1;crates 0");
        e.mornings(3);
        due(bottles(e, 0), 60300);
        e.charge(2);
        e.mornings(1);
        due(bottles(e, 0), 50100);
    }

    private static void nineAtMost() {
        // Terms: "FRESH is 1 more, else OLD is 1 more (9 at most, both)"
        MilkDays x = suburb("step at 0 credit 9 fresh 9 note 0;price 1");
        due(x.mornings(1), 2);
        due(bottles(x, 0) + " " + x.step(0, CREDIT), "80100 7");
        MilkDays y = suburb("step at 0 credit 0 fresh 9;" + FAR_OFF + ";crates 0");
        y.mornings(1);
        due(y.lend(1, 0), 0);
        due(bottles(y, 0), 90100);
        y.crates(1);
        due(y.mornings(1), 1);
        due(bottles(y, 0), 80100);
        // Terms: "FRESH is 1 less, OLD 1 more (9 at most)"
        y.lend(1, 0);
        y.pay(0, 2);
        law(y, "bird 100");
        due(y.mornings(1), 1);
        due(bottles(y, 0), 80100);
        // Terms: "then all that is FRESH is OLD (9 at most)."
        MilkDays z = suburb("step at 0 credit 9 fresh 9 note 1;" + FAR_OFF + ";crates 0");
        z.mornings(1);
        z.lend(1, 0);
        z.crates(2);
        due(z.mornings(1), 2);
        due(bottles(z, 0), 90100);
    }

    // ---- (b)

    private static void birdsAndFrost() {
        // Terms: "if DRAW modulo 100 is below what it PECKS by, FRESH is 1 less, OLD 1 more": the first DRAW is 38
        String old = "break 100 if old > 0";
        MilkDays x = law(suburb(FAR_OFF + ";birds 39"), old);
        x.mornings(1);
        due(bottles(x, 0), 70100);
        MilkDays y = law(suburb(FAR_OFF + ";birds 38"), old);
        y.mornings(1);
        due(bottles(y, 0), 80100);
        MilkDays n = law(suburb(FAR_OFF), "bird 0;" + old);
        n.seed(0);
        n.mornings(1);
        due(bottles(n, 0), 80100);
        MilkDays o = law(suburb(FAR_OFF), "bird 1;" + old);
        o.seed(0);
        o.mornings(1);
        due(bottles(o, 0), 70100);
        // Terms: "if DRAW modulo 100 is below what it BREAKS by, FRESH is 1 less (that DRAW just then).": the second is 58
        MilkDays z = suburb(FAR_OFF + ";frost 59");
        z.mornings(1);
        due(bottles(z, 0), 70100);
        MilkDays u = suburb(FAR_OFF + ";frost 58");
        u.mornings(1);
        due(bottles(u, 0), 80100);
        // Terms: "then, if FRESH is above 0 yet": the only one is pecked, and nothing is drawn for frost
        MilkDays v = suburb("step at 5 credit 0 fresh 1;birds 39;frost 100");
        v.mornings(1);
        due(bottles(v, 0), 100);
        due(v.seed(1), 1103527590);
        MilkDays w = suburb("step at 5 credit 0 fresh 1;birds 38;frost 59");
        w.mornings(1);
        due(bottles(w, 0), 1);
        due(w.seed(1), -1770082073);
        // Terms: "(b) Each STEP with FRESH bottles, by numbers": not by THE ROUND, and none for those without
        MilkDays s = law(suburb("step at 5 credit 0 fresh 2;step at 5 credit 0;step at 5 credit 0 fresh 2"), "break 58 if step < 1;break 16 if step > 1");
        s.change(0, 2);
        s.mornings(1);
        due(bottles(s, 0), 10100);
        due(bottles(s, 1), 1);
        due(bottles(s, 2), 100);
        due(s.seed(1), -999580867);
        s.mornings(2);
        due(s.seed(4), 1);
    }

    private static void draws() {
        // Terms: "DRAW: SEED is 1103515245 times SEED and 12345, as an int that goes round; bits 16 to 30 (SEED 1 at first)."
        MilkDays x = suburb(FAR_OFF + ";birds 1");
        x.seed(LOWEST);
        law(x, "break 100 if old > 0;break 68 if old < 1");
        x.mornings(1);
        // Bits 16 to 30 are 0, bit 31 is not: 0 is below 1, and pecked.
        due(bottles(x, 0), 70100);
        due(x.seed(7), 1406932606);
        int[] seeds = {1, 0, -1, HIGHEST, LOWEST, 123456789, -987654321};
        for (int seed : seeds) {
            MilkDays z = suburb("step at 5 credit 0 fresh 1;birds 100");
            z.seed(seed);
            z.mornings(1);
            due((long) z.seed(1), (long) (int) (1103515245L * seed + 12345L));
        }
        // Terms: "bits 16 to 30": a DRAW is 0 to 32767, so that 100 pecks for sure
        for (int seed : seeds) {
            MilkDays z = law(suburb(FAR_OFF), "bird 100;break 100 if old > 0");
            z.seed(seed);
            z.mornings(1);
            due(bottles(z, 0), 70100);
        }
    }

    // ---- (c) and (d)

    private static void drinking() {
        // Terms: "(c) Each STEP, by numbers: with OLD above 0 it is 1 less, else with FRESH above 0 that is 1 less"
        MilkDays x = suburb("step at 5 credit 0 fresh 2;" + FAR_OFF);
        x.mornings(1);
        due(bottles(x, 0), 10100);
        due(put(x, FAR_OFF).suburb(), 2);
        law(x, "sour 9");
        due(x.lend(2, 0), 1);
        due(bottles(x, 0), 1010100);
        x.mornings(1);
        due(bottles(x, 0), 10200);
        x.mornings(1);
        due(bottles(x, 0), 300);
        // Terms: "with either EMPTY is 1 more (99 at most) and DRY is 0; without both DRY is 1 more (99 at most)."
        x.mornings(1);
        due(bottles(x, 0), 301);
        MilkDays e = suburb(steps(5, 0));
        for (int i = 0; i <= 98; i++) {
            e.note(1, e.count(DAY) % 7);
            e.mornings(1);
            e.lend(1, 0);
        }
        due(bottles(e, 0), 19800);
        for (int i = 0; i <= 2; i++) {
            e.note(1, e.count(DAY) % 7);
            e.mornings(1);
            e.lend(1, 0);
            due(bottles(e, 0), 19900);
        }
        MilkDays d = suburb("road 0 1 long 1;step at 1 credit 0;charge 0");
        d.mornings(60);
        d.mornings(38);
        due(bottles(d, 0), 98);
        d.mornings(1);
        due(bottles(d, 0), 99);
        d.mornings(1);
        due(bottles(d, 0), 99);
        d.charge(2);
        d.mornings(1);
        due(bottles(d, 0), 100);
    }

    private static void souring() {
        // Terms: "(d) Each STEP, by numbers: OLD is what it SOURS by less (0 at least); then all that is FRESH is OLD (9 at
        // most)."
        int[][] sours = {{0, 70200}, {6, 10200}, {7, 200}, {8, 200}, {100, 200}};
        for (int[] by : sours) {
            MilkDays x = law(suburb(FAR_OFF), "sour " + by[0]);
            x.mornings(1);
            due(bottles(x, 0), 80100);
            x.mornings(1);
            due(bottles(x, 0), by[1]);
        }
        MilkDays m = law(suburb(FAR_OFF), times(12, "sour 100"));
        m.mornings(2);
        due(bottles(m, 0), 200);
        // Terms: "DAY is 1 more (9999 at most)."
        MilkDays d = suburb("step at 0 credit 0;day 998");
        d.mornings(1);
        due(d.count(DAY), 999);
        for (int i = 0; i < 149; i++) d.mornings(60);
        due(d.count(DAY), 9939);
        d.mornings(59);
        due(d.count(DAY), 9998);
        d.mornings(1);
        due(d.count(DAY), 9999);
        d.note(0, 9999 % 7);
        due(d.mornings(2), 4);
        due(d.count(DAY) * 10 + d.log(0, 0) % 10, 99999);
        due(d.log(1, 0), 9999);
    }

    private static void asItIsThen() {
        // Terms: "(Each by all as it is then.)": PECKS behind paying
        MilkDays x = law(suburb("step at 0 credit 2 note 0;step at 0 credit 4 note 0;step at 0 credit 5 note 0"),
            "bird 100 if credit < 1;break 100 if old > 0 and credit < 1");
        x.mornings(1);
        // One paid, one OLD: pecked, one drunk, one left; two paid: one pecked, one broken; two paid, and CREDIT left: neither.
        due(bottles(x, 0), 10100);
        due(bottles(x, 1), 100);
        due(bottles(x, 2), 10100);
        // BREAKS behind pecking
        MilkDays b = law(suburb("step at 5 credit 0 fresh 2;birds 39"), "break 100 if fresh < 2 and fresh > 0 and old > 0");
        b.mornings(1);
        due(bottles(b, 0), 100);
        // SOURS behind drinking, and ahead of the FRESH ones that get OLD
        MilkDays s = law(suburb("step at 5 credit 0 fresh 4"), "sour 1 if old > 1");
        s.mornings(1);
        due(bottles(s, 0), 30100);
        s.mornings(1);
        due(bottles(s, 0), 10200);
        MilkDays d = law(suburb("road 0 1 long 1;step at 1 credit 0 note 1;charge 1"), "sour 9 if dry > 0");
        d.mornings(1);
        due(bottles(d, 0), 1);
        d.charge(2);
        d.mornings(1);
        due(bottles(d, 0), 10100);
        MilkDays f = law(suburb("step at 5 credit 0 fresh 4"), "sour 9 if fresh > 3;sour 1 if fresh > 2");
        f.mornings(1);
        due(bottles(f, 0), 30100);
        // SOURS on that DAY yet
        MilkDays w = law(suburb(FAR_OFF + ";day 5"), "sour 9 if week > 5;sour 1 if week < 1 and noted");
        w.note(0, 0);
        w.mornings(1);
        due(bottles(w, 0), 80100);
        w.mornings(1);
        due(bottles(w, 0), 200);
        MilkDays k = law(suburb(FAR_OFF + ";day 6"), "sour 1 if week < 1 and noted");
        k.note(0, 0);
        k.mornings(1);
        k.mornings(1);
        due(bottles(k, 0), 60200);
        k.mornings(1);
        due(bottles(k, 0), 50300);
    }

    private static void ahead() {
        MilkDays x = law(suburb("step at 0 credit 5 fresh 1 note 1;road 0 1 long 1;step at 1 credit 0 fresh 9;charge 1;birds 100;frost 100"),
            "sour 2 if step > 0");
        String was = all(x);
        // Terms: "AHEAD by N DAYS (0 to 60): as so many MORNINGS in which no bird pecks and nothing breaks (no DRAWS)."
        // Promise 48: "AHEAD of a STEP by N DAYS what 0 FRESH, 1 OLD, 2 CREDIT, 3 DRY."
        int[][] first = {{1, 0, 5, 0}, {0, 1, 3, 0}, {0, 2, 1, 0}, {0, 2, 1, 0}};
        for (int n = 0; n < 4; n++) for (int what = 0; what < 4; what++) due(x.ahead(0, n, what), first[n][what]);
        int[] old = {0, 8, 5, 2, 0, 0, 0};
        int[] dry = {0, 0, 0, 0, 0, 1, 2};
        for (int n = 0; n < 7; n++) due(x.ahead(1, n, 1) * 10 + x.ahead(1, n, 3), old[n] * 10 + dry[n]);
        due(x.ahead(1, 0, 0) * 10 + x.ahead(1, 1, 0), 90);
        due(x.ahead(1, 60, 3), 56);
        due(all(x), was);
        // Promise 48: "IllegalArgumentException: N is none; NoSuchElementException: another what."
        for (int n : new int[] {61, -1, HIGHEST, LOWEST}) refused(x, NO_NUMBER, () -> x.ahead(0, n, 0));
        for (int what : new int[] {4, -1, HIGHEST, LOWEST}) refused(x, NO_WHAT, () -> x.ahead(0, 0, what));
        // Behind Terms: "Of several exceptions the one told first is thrown"
        fails(NO_SUCH, () -> x.ahead(2, 61, 4));
        fails(NO_SUCH, () -> x.ahead(-1, -1, -1));
        fails(NO_NUMBER, () -> x.ahead(0, 61, 4));
        fails(NO_SUCH, () -> x.ahead(2, 0, 4));
        // The DAY goes on, and is 9999 at most.
        MilkDays w = law(suburb(FAR_OFF + ";day 4"), "sour 9 if week > 5");
        due(w.ahead(0, 2, 1) * 10 + w.ahead(0, 3, 1), 70);
    }

    // ---- acts

    private static void mornings() {
        MilkDays x = suburb("step at 0 credit 50;road 0 1 long 2;step at 1 credit 0;charge 3");
        // Promise 11: "So many MORNINGS (1 to 60): how many bottles the float left in these. IllegalArgumentException: they are
        // none."
        due(x.mornings(1), 1);
        due(x.mornings(60), 60);
        due(x.count(DAY), 61);
        x.charge(4);
        due(x.mornings(2), 4);
        for (int n : new int[] {0, -1, 61, HIGHEST, LOWEST}) refused(x, NO_NUMBER, () -> x.mornings(n));
        due(new MilkDays().mornings(60), 0);
    }

    private static void payAndTell() {
        MilkDays x = suburb("step at 0 credit 10 kind 1 note 3;step at 0 credit 0");
        // Behind Terms: "IllegalArgumentException: a number is none, or two are one. IllegalStateException: it cannot be."
        // Promise 12: "One pays: CREDIT then. IllegalArgumentException: n is none (1 to 999)."
        due(x.pay(0, 1), 11);
        due(x.pay(0, 999), 1010);
        for (int n : new int[] {0, -1, 1000, HIGHEST, LOWEST}) refused(x, NO_NUMBER, () -> x.pay(0, n));
        for (int step : new int[] {2, -1}) refused(x, NO_SUCH, () -> x.pay(step, 0));
        // Terms: "one pays (CREDIT is more, 9999 at most)"
        for (int i = 0; i < 8; i++) x.pay(0, 999);
        due(x.pay(0, 997), 9999);
        due(x.pay(0, 1), 9999);
        due(x.step(0, CREDIT) * 10 + x.step(1, CREDIT), 99990);
        // Promise 13: "A NOTE is told (day NONE: none): what it was; NONE."
        due(x.note(0, 6), 3);
        due(x.note(0, 0), 6);
        due(x.note(0, NONE), 0);
        due(x.note(0, NONE), NONE);
        due(x.step(0, NOTE), NONE);
        due(x.note(1, 6), NONE);
        for (int day : new int[] {7, -2, HIGHEST, LOWEST}) refused(x, NO_SUCH, () -> x.note(0, day));
        for (int step : new int[] {2, -1}) refused(x, NO_SUCH, () -> x.note(step, 0));
        // Promise 14: "A KIND is told: what it was."
        due(x.kind(0, 3), 1);
        due(x.kind(0, 0), 3);
        due(x.step(0, KIND) * 10 + x.step(1, KIND), 0);
        for (int kind : new int[] {4, -1, HIGHEST, LOWEST}) refused(x, NO_SUCH, () -> x.kind(0, kind));
        for (int step : new int[] {2, -1}) refused(x, NO_SUCH, () -> x.kind(step, 0));
    }

    private static void changeAndCharge() {
        MilkDays x = suburb(steps(0, 0, 0) + ";charge 7;crates 8");
        // Promise 15: "Two places of THE ROUND change: the STEP at the first one then. IllegalArgumentException: both are one."
        due(x.change(0, 2), 2);
        due(x.change(0, 1), 1);
        due(x.change(2, 1), 2);
        due(x.round(0) * 100 + x.round(1) * 10 + x.round(2), 102);
        due(x.change(2, 0), 1);
        due(x.round(0) * 100 + x.round(1) * 10 + x.round(2), 201);
        refused(x, NO_NUMBER, () -> x.change(0, 0));
        refused(x, NO_NUMBER, () -> x.change(2, 2));
        for (int place : new int[] {3, -1, HIGHEST, LOWEST}) {
            refused(x, NO_SUCH, () -> x.change(place, 0));
            refused(x, NO_SUCH, () -> x.change(0, place));
            refused(x, NO_SUCH, () -> x.change(place, place));
        }
        // Promise 16: "CHARGE is told: what it was. IllegalArgumentException: it is none."
        due(x.charge(0), 7);
        due(x.charge(200), 0);
        due(x.charge(200), 200);
        for (int n : new int[] {201, -1, HIGHEST, LOWEST}) refused(x, NO_NUMBER, () -> x.charge(n));
        // Promise 17: "CRATES are told: what they were. IllegalArgumentException: they are none."
        due(x.crates(0), 8);
        due(x.crates(99), 0);
        due(x.crates(99), 99);
        for (int n : new int[] {100, -1, HIGHEST, LOWEST}) refused(x, NO_NUMBER, () -> x.crates(n));
    }

    private static void lending() {
        MilkDays x = suburb("step at 5 credit 0 fresh 3;step at 5 credit 0 fresh 8;step at 5 credit 0;" + FAR_OFF);
        // Promise 18: "A bottle is lent: 0 an OLD one, 1 a FRESH one. IllegalArgumentException: both are one;
        // IllegalStateException: the first one has none, or the other one has 9 of those (OLD, FRESH) already."
        due(x.lend(0, 1), 1);
        due(x.step(0, FRESH) * 10 + x.step(1, FRESH), 29);
        refused(x, CANNOT, () -> x.lend(0, 1));
        refused(x, CANNOT, () -> x.lend(2, 0));
        refused(x, CANNOT, () -> x.lend(2, 3));
        refused(x, NO_NUMBER, () -> x.lend(0, 0));
        refused(x, NO_NUMBER, () -> x.lend(2, 2));
        for (int step : new int[] {4, -1, HIGHEST, LOWEST}) {
            refused(x, NO_SUCH, () -> x.lend(step, 0));
            refused(x, NO_SUCH, () -> x.lend(0, step));
            refused(x, NO_SUCH, () -> x.lend(step, step));
        }
        due(x.lend(0, 2) + x.lend(0, 2), 2);
        due(x.step(0, FRESH) * 10 + x.step(2, FRESH), 2);
        refused(x, CANNOT, () -> x.lend(0, 2));
        // Terms: "a bottle is lent (an OLD one, else a FRESH one) to another STEP"
        x.mornings(1);
        due(x.lend(3, 1), 0);
        refused(x, CANNOT, () -> x.lend(3, 1));
        put(x, FAR_OFF).suburb();
        due(x.lend(4, 1), 1);
        due(x.lend(4, 3), 1);
        due(bottles(x, 3), 1070100);
        due(x.lend(1, 0), 0);
        due(bottles(x, 1), 1080100);
        due(x.lend(3, 1), 0);
        // STEP 1 has 9 OLD ones: no OLD one goes to it, and no FRESH one in place of it.
        refused(x, CANNOT, () -> x.lend(3, 1));
        due(x.lend(3, 0), 0);
        due(bottles(x, 3), 1050100);
    }

    private static void actsThatChangeNothing() {
        // Terms: "(each also if it changes nothing)"
        MilkDays x = suburb("step at 5 credit 999 kind 2 note 3;step at 5 credit 0 fresh 1");
        for (int i = 0; i < 10; i++) x.pay(0, 999);
        x.law();
        due(x.count(UNDOABLE), 0);
        x.pay(0, 1);
        due(x.count(UNDOABLE), 1);
        x.note(0, 3);
        due(x.count(UNDOABLE), 2);
        x.kind(0, 2);
        due(x.count(UNDOABLE), 3);
        x.charge(60);
        due(x.count(UNDOABLE), 4);
        x.crates(20);
        due(x.count(UNDOABLE), 5);
        x.change(0, 1);
        due(x.count(UNDOABLE), 6);
        x.lend(1, 0);
        due(x.count(UNDOABLE), 7);
        x.mornings(1);
        due(x.count(UNDOABLE), 8);
        // Terms: "ACTS: MORNINGS; one pays (CREDIT is more, 9999 at most); a NOTE is told; a KIND is told; two places of THE
        // ROUND change; CHARGE is told; CRATES are told; a bottle is lent": these are all; what is asked, SEED and THE IMAGE are
        // none
        x.seed(5);
        x.image();
        x.trial(9, true);
        x.span(9, false);
        x.ahead(0, 9, 0);
        x.holds(9);
        x.pays(0, 9);
        x.owes(0);
        x.dries(true);
        x.seen(true);
        x.ask();
        due(x.count(UNDOABLE), 8);
        for (int i = 7; i >= 0; i--) due(x.undo() + " " + x.count(UNDOABLE), "true " + i);
        due(x.undo(), false);
    }

    // ---- trials and spans

    private static void trials() {
        MilkDays x = suburb(FAR_OFF + ";step at 0 credit 2;road 0 1 long 1;step at 1 credit 0;charge 1;frost 59");
        x.charge(1);
        String was = all(x);
        // Promise 49: "TRIAL: bottles (dry false), or STEPS, as bits. IllegalArgumentException: N is none."
        // Terms: "TRIAL of N DAYS (0 to 60) from now (draws, too; nothing stays): bottles of all, FRESH and OLD, then; STEPS
        // that are DRY then, as bits."
        due(x.trial(0, false) * 10 + x.trial(0, true), 90);
        // The second draw, 58, is below 59: broken; the second STEP has one FRESH bottle, which 15 breaks, too.
        due(x.trial(1, false) * 10 + x.trial(1, true), 76);
        due(x.trial(60, true), 5);
        due(x.trial(60, false), 0);
        due(all(x), was);
        for (int n : new int[] {61, -1, HIGHEST, LOWEST}) {
            refused(x, NO_NUMBER, () -> x.trial(n, false));
            refused(x, NO_NUMBER, () -> x.trial(n, true));
        }
        x.seed(2);
        x.mornings(1);
        due(x.trial(0, true), 6);
        // Terms: "from now": from its SEED
        MilkDays y = suburb(FAR_OFF + ";frost 58");
        due(y.trial(1, false), 8);
        y.seed(2);
        due(y.trial(1, false), 7);
        due(y.seed(1), 2);
    }

    private static int span(String more) {
        MilkDays x = law(suburb(FAR_OFF + ";" + FAR_OFF), more);
        return x.span(1, false) * 100 + x.span(1, true);
    }

    private static void spans() {
        // Promise 50: "SPAN: the least (most false), or the greatest. IllegalArgumentException: N is none."
        // Terms: "SPAN: the least and the greatest number of bottles so from SEED 1, 2, .. 6."
        due(span("sour 1"), 1616);
        due(span("break 100"), 1414);
        // The second draw from SEED 1 to 6: 58 17 7 66 57 15; from 0 it is 68, from 7 it is 6.
        due(span("break 7 if step < 1"), 1616);
        due(span("break 8 if step < 1"), 1516);
        due(span("break 66 if step < 1"), 1516);
        due(span("break 67 if step < 1"), 1515);
        // The third draw from SEED 1 is 13, from all others more.
        due(span("bird 13 if step > 0;break 100 if step > 0 and old > 0"), 1616);
        due(span("bird 14 if step > 0;break 100 if step > 0 and old > 0"), 1516);
        // The third and fourth draw from SEED 1 to 6: 13 15, 39 14, 65 12, 91 11, 16 77, 42 76.
        due(span("bird 40 if step > 0;break 76 if step > 0;break 100 if step > 0 and old > 0"), 1516);
        due(span("bird 40 if step > 0;break 77 if step > 0;break 100 if step > 0 and old > 0"), 1515);
        MilkDays x = suburb(FAR_OFF + ";frost 67");
        x.seed(0);
        String was = all(x);
        due(x.span(0, false) * 10 + x.span(0, true), 99);
        due(x.span(1, false) * 10 + x.span(1, true), 77);
        due(x.span(60, false) + x.span(60, true), 0);
        due(all(x), was);
        for (int n : new int[] {61, -1, HIGHEST, LOWEST}) {
            refused(x, NO_NUMBER, () -> x.span(n, false));
            refused(x, NO_NUMBER, () -> x.span(n, true));
        }
        due(new MilkDays().span(60, true), 0);
    }

    // ---- the log

    private static void theLog() {
        MilkDays x = suburb("step at 0 credit 0 note 0;road 0 1 long 3;step at 1 credit 0;charge 10");
        // Promise 51: "LED: how many rows (day false), or the DAY; NONE."
        due(x.led(0, false), 0);
        due(x.led(0, true), NONE);
        fails(NO_SUCH, () -> x.led(2, false));
        fails(NO_SUCH, () -> x.led(-1, true));
        // Promise 52: "THE LOG so many ago (0 the latest) what 0 DAY, 1 the STEP, 2 how many, 3 CHARGE; NONE without."
        for (int what = 0; what < 4; what++) due(x.log(0, what), NONE);
        x.mornings(1);
        int[][] rows = {{0, 1, 1, 7}, {0, 0, 2, 10}, {NONE, NONE, NONE, NONE}};
        for (int ago = 0; ago < 3; ago++) for (int what = 0; what < 4; what++) due(x.log(ago, what), rows[ago][what]);
        for (int ago : new int[] {-1, 2, 60, HIGHEST, LOWEST}) due(x.log(ago, 0), NONE);
        // Promise 52: "NoSuchElementException: another what."
        for (int what : new int[] {4, -1, HIGHEST, LOWEST}) {
            refused(x, NO_WHAT, () -> x.log(0, what));
            refused(x, NO_WHAT, () -> x.log(99, what));
        }
        // Terms: "THE LOG: the latest 60 times that the float left something (1 bottle at least): DAY, the STEP, how many, how
        // much CHARGE it had left then."
        x.crates(0);
        x.mornings(3);
        due(x.count(ROWS), 2);
        due(x.led(1, true), 0);
        x.crates(1);
        MilkDays passed = suburb("road 0 1 long 1;step at 1 credit 0;charge 2");
        passed.mornings(1);
        passed.charge(1);
        passed.mornings(1);
        due(passed.count(ROWS) * 10 + passed.log(0, 0), 10);
        x.mornings(58);
        due(x.count(ROWS), 60);
        due(x.log(59, 1) * 10 + x.log(59, 2), 2);
        due(x.led(1, false) * 100 + x.led(0, false), 159);
        x.mornings(1);
        due(x.count(ROWS), 60);
        due(x.log(59, 1) * 10 + x.log(59, 2), 11);
        due(x.log(60, 0), NONE);
        due(x.led(0, false), 59);
        x.mornings(1);
        // Terms: "LED: how many rows of THE LOG are of a STEP; the DAY of the latest (none)."
        due(x.led(1, false), 0);
        due(x.led(1, true), NONE);
        due(x.led(0, false) * 1000 + x.led(0, true), 60063);
        due(x.log(59, 0) * 100 + x.log(0, 0), 463);
        x.mornings(60);
        x.mornings(60);
        due(x.count(ROWS) * 1000 + x.log(59, 0), 60124);
        due(x.log(0, 0), 183);
    }

    // ---- undone, the image

    private static void undone() {
        MilkDays x = suburb("step at 0 credit 0 note 0;step at 0 credit 0;charge 0");
        // Promise 54: "UNDONE: whether there was one."
        due(x.undo(), false);
        // Terms: "UNDONE: the latest ACT not undone yet (12 are remembered; MORNINGS of one call are one)"
        for (int i = 1; i <= 13; i++) x.charge(i);
        due(x.count(UNDOABLE), 12);
        for (int i = 12; i >= 1; i--) {
            due(x.undo(), true);
            due(x.count(CHARGE) * 100 + x.count(UNDOABLE), i * 100 + i - 1);
        }
        due(x.undo(), false);
        due(x.count(CHARGE), 1);
        for (int i = 20; i <= 40; i++) x.charge(i);
        due(x.undo() && x.undo(), true);
        x.charge(50);
        due(x.undo(), true);
        due(x.count(CHARGE) * 100 + x.count(UNDOABLE), 3810);
        for (int i = 0; i < 10; i++) due(x.undo(), true);
        due(x.undo(), false);
        due(x.count(CHARGE), 28);
        String was = all(x);
        x.mornings(60);
        due(x.count(UNDOABLE), 1);
        due(x.undo(), true);
        due(all(x), was);
    }

    private static String rows(MilkDays x) {
        StringBuilder b = new StringBuilder();
        for (int ago = 0; ago <= 60; ago++) for (int what = 0; what < 4; what++) b.append(x.log(ago, what)).append(' ');
        return b.toString();
    }

    private static void rowsAreAsAhead() {
        // Terms: "all is as ahead of it": THE LOG, too, where rows were dropped since
        MilkDays x = suburb("step at 0 credit 0 note 0;road 0 1 long 3;step at 1 credit 0;charge 10");
        x.mornings(40);
        String was = rows(x);
        x.charge(5);
        x.mornings(60);
        due(rows(x).equals(was), false);
        due(x.undo(), true);
        due(rows(x), was);
        MilkDays y = suburb("step at 0 credit 0 note 0;road 0 1 long 3;step at 1 credit 0;charge 10");
        y.mornings(40);
        y.image();
        y.charge(5);
        y.mornings(60);
        due(y.back(), true);
        due(rows(y), was);
    }

    private static void allIsAsAhead() {
        MilkDays x = law(suburb("step at 0 credit 9 kind 1 fresh 2 note 0;step at 5 credit 0 fresh 5;birds 60;frost 60"), "sour 1");
        x.seed(77);
        // Terms: "all is as ahead of it (but for the TAPE, fault(), THE IMAGE)."
        String was = all(x);
        x.mornings(9);
        x.seed(5);
        due(x.undo(), true);
        due(all(x), was);
        x.pay(0, 9);
        x.undo();
        due(all(x), was);
        x.note(0, 4);
        x.undo();
        due(all(x), was);
        x.kind(0, 2);
        x.undo();
        due(all(x), was);
        x.change(1, 0);
        x.undo();
        due(all(x), was);
        x.charge(1);
        x.undo();
        due(all(x), was);
        x.crates(1);
        x.undo();
        due(all(x), was);
        x.lend(1, 0);
        x.undo();
        due(all(x), was);
        x.charge(33);
        x.image();
        put(x, "day 7");
        due(x.undo(), true);
        due(x.count(CHARGE), 60);
        due(x.end(5), true);
        due(x.end(6), false);
        due(x.back(), true);
        due(x.count(CHARGE), 33);
        // Terms: "A text, going back: none are remembered."
        x.charge(1);
        x.suburb();
        due(x.count(UNDOABLE), 0);
        due(x.undo(), false);
        due(x.count(CHARGE), 1);
        x.charge(2);
        x.law();
        due(x.count(UNDOABLE), 0);
        due(x.undo(), false);
        due(x.count(CHARGE), 2);
        x.charge(3);
        x.back();
        due(x.count(UNDOABLE), 0);
        due(x.undo(), false);
        due(x.count(CHARGE), 33);
        // Behind Terms: "a call that throws changes nothing but the TAPE, where it is used up": not what is remembered
        x.charge(4);
        fails(NO_NUMBER, put(x, "x")::suburb);
        fails(NO_NUMBER, put(x, "x")::law);
        fails(NO_NUMBER, () -> x.charge(201));
        due(x.count(UNDOABLE), 1);
        due(x.undo(), true);
        due(x.count(CHARGE), 33);
    }

    private static void theImage() {
        MilkDays x = law(suburb("step at 0 credit 9 kind 1 fresh 2 note 0;step at 1 credit 0 fresh 5;birds 60;road 0 1 long 3"), "sour 1");
        // Promise 56: "One goes back to THE IMAGE: true; false, and nothing happens, if none was kept."
        x.mornings(2);
        x.seed(9);
        String was = all(x);
        due(x.back(), false);
        due(all(x), was);
        // Promise 55: "THE IMAGE is kept."
        x.image();
        due(all(x), was);
        due(x.count(UNDOABLE), 1);
        // Terms: "THE IMAGE (one) of all may be kept, and gone back to (but for the TAPE, fault() and THE IMAGE itself)."
        x.mornings(3);
        put(x, "step at 2 credit 1;road 0 1 long 9;road 1 2 long 4;charge 1;crates 1;price 1;birds 1;frost 1;day 999").suburb();
        law(x, "bird 1;bird 2");
        x.change(0, 2);
        x.seed(4);
        due(x.shortest(NONE), 26);
        put(x, "day 6");
        due(x.back(), true);
        due(all(x), was);
        due(x.count(UNDOABLE), 0);
        due(x.shortest(NONE), 6);
        due(x.end(5) && !x.end(6), true);
        put(x, "road 10 11 long 5").suburb();
        x.image();
        put(x, "road 10 11 long 8;road 9 10 long 1").suburb();
        due(x.back(), true);
        due(x.far(10, 11) * 10 + x.road(10, 11), 55);
        due(x.far(9, 10), NONE);
        x.end(0);
        due(x.count(TEXTS), 2);
        due(x.back(), true);
        due(x.count(TEXTS) * 10 + x.count(LINES), 21);
        x.charge(9);
        x.image();
        x.charge(10);
        due(x.back(), true);
        due(x.count(CHARGE), 9);
        due(x.back(), true);
        // What is kept is not changed by what happens behind it.
        x.pay(0, 500);
        x.mornings(5);
        due(x.back(), true);
        due(x.count(CHARGE) * 10 + x.count(DAY), 92);
        // An IMAGE of a new object is one, too.
        MilkDays y = new MilkDays();
        y.image();
        due(put(y, FAR_OFF).suburb(), 1);
        law(y, "sour 1");
        due(y.back(), true);
        due(y.count(STEPS) * 100 + y.count(TEXTS) * 10 + y.count(LINES), NONE);
        fails(NO_SUCH, () -> y.step(0, 0));
        for (int i = 1; i <= 12; i++) due(y.suburb(), i);
        due(y.back(), true);
        due(y.suburb(), 1);
    }

    private static void seeds() {
        MilkDays x = new MilkDays();
        // Promise 53: "SEED: what it was."
        due(x.seed(0), 1);
        due(x.seed(HIGHEST), 0);
        due(x.seed(LOWEST), HIGHEST);
        due(x.seed(LOWEST), LOWEST);
        x.mornings(60);
        due(x.seed(1), LOWEST);
        // Terms: "all is as ahead of it": a SEED that is told is no ACT, and it goes back with the ACT behind which it was told
        MilkDays y = new MilkDays();
        y.seed(7);
        due(y.undo(), false);
        y.charge(1);
        y.seed(8);
        due(y.undo(), true);
        due(y.seed(1), 7);
    }

    public static void main(String[] args) {
        theFloatGoes();
        bottlesAreLeft();
        nineAtMost();
        birdsAndFrost();
        draws();
        drinking();
        souring();
        asItIsThen();
        ahead();
        mornings();
        payAndTell();
        changeAndCharge();
        lending();
        actsThatChangeNothing();
        trials();
        spans();
        theLog();
        undone();
        rowsAreAsAhead();
        allIsAsAhead();
        theImage();
        seeds();
        done("EdgesMorningsTest");
    }
}
