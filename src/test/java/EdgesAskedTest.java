/**
 * Sentence by sentence, the cases at the bounds: what is asked of STEPS, CORNERS, THE ROUND, CHARGE, and of STEPS
 * among one another (promises 7 to 10, 19 to 47 and 57).
 */
final class EdgesAskedTest extends Edges {
    // Each of six STEPS was left something.
    private static final int[] EVERY = {0, 1, 1, 1, 2, 1, 3, 1, 4, 1, 5, 1};

    /** Three STEPS, each on a ROAD of its own from the DAIRY. */
    private static MilkDays star(int first, int second, int third, int charge) {
        return suburb(steps(1, 2, 3) + ";road 0 1 long " + first + ";road 0 2 long " + second
            + ";road 0 3 long " + third + ";charge " + charge);
    }

    /** Six STEPS with a WAY of 194 and this; all are reached from a CHARGE of that on. */
    private static MilkDays longRound(int ring) {
        return suburb("charge 0;" + chain(9), steps(9, 0, 10, 11, 0) + ";"
            + "step at 1 credit 0;road 0 10 long 7;road 11 0 long 7;road 10 11 long " + ring);
    }

    // ---- a STEP, CORNERS, ROADS

    private static void step() {
        MilkDays x = suburb("step at 3 credit 1 kind 2 fresh 4 note 5 dog;step at 0 credit 1;step at 9 credit 1;road 0 3 long 2;birds 1;frost 2");
        law(x, "sour 3");
        // Promise 7: "Of a STEP what 0 the CORNER, 1 KIND, 2 CREDIT, 3 FRESH, 4 OLD, 5 EMPTY, 6 DRY, 7 the NOTE (NONE), 8 1 with
        // a DOG, 9, 10, 11 what it PECKS, BREAKS, SOURS by now, 12 SHARE, 13 OUTER (0, if it cannot be reached), 14 its place in
        // THE ROUND."
        int[][] all = {{3, 2, 1, 4, 0, 0, 0, 5, 1, 1, 2, 3, 33, 0, 0}, {0, 0, 1, 0, 0, 0, 0, NONE, 0, 1, 2, 3, 33, 1, 1},
            {9, 0, 1, 0, 0, 0, 0, NONE, 0, 1, 2, 3, 33, 0, 2}};
        for (int s = 0; s < 3; s++) for (int what = 0; what <= 14; what++) due(x.step(s, what), all[s][what]);
        x.change(0, 2);
        due(x.step(0, PLACE) * 100 + x.step(1, PLACE) * 10 + x.step(2, PLACE), 210);
        // Promise 7: "NoSuchElementException: another what."
        for (int what : new int[] {15, -1, HIGHEST, LOWEST}) refused(x, NO_WHAT, () -> x.step(0, what));
        // Behind Terms: "IndexOutOfBoundsException: there is no such CORNER, STEP, place of THE ROUND, KIND, day of the week."
        for (int s : new int[] {3, -1, HIGHEST, LOWEST}) {
            refused(x, NO_SUCH, () -> x.step(s, 0));
            refused(x, NO_SUCH, () -> x.step(s, 15));
        }
    }

    private static void shares() {
        // Terms: "SHARE of a STEP: CREDIT in hundredths of that of all, rounded down (0 without)."
        MilkDays x = suburb("step at 0 credit 2;step at 0 credit 1;step at 0 credit 0");
        due(x.step(0, SHARE) * 10000 + x.step(1, SHARE) * 100 + x.step(2, SHARE), 663300);
        due(suburb(steps(0, 0)).step(1, SHARE), 0);
        due(suburb("step at 0 credit 999").step(0, SHARE), 100);
        due(suburb("step at 0 credit 1;step at 0 credit 0").step(0, SHARE), 100);
        MilkDays y = suburb("step at 0 credit 999;step at 0 credit 1");
        due(y.step(0, SHARE) * 10 + y.step(1, SHARE), 990);
        for (int i = 0; i < 10; i++) y.pay(0, 999);
        for (int i = 0; i < 11; i++) y.pay(1, 999);
        due(y.step(0, SHARE) * 100 + y.step(1, SHARE), 5050);
        // Terms: "OUTER of a STEP: how many STEPS that can be reached are FARTHER from the DAIRY than it."
        MilkDays z = suburb(steps(1, 2, 2, 3, 0, 9) + ";"
            + "road 0 1 long 2;road 0 2 long 2;road 2 3 long 1;road 9 10 long 1");
        int[] outer = {1, 1, 1, 0, 4, 0};
        for (int s = 0; s < 6; s++) due(z.step(s, OUTER), outer[s]);
    }

    private static void farAndRoad() {
        MilkDays x = suburb(chain(11));
        // Promise 8: "FAR; NONE."
        due(x.far(0, 11) * 100 + x.far(11, 0), 9999);
        // Terms: "FAR of two CORNERS: the least LENGTHS together by ROADS; none."
        due(suburb("road 0 1 long 9;road 0 2 long 4;road 2 1 long 4").far(0, 1), 8);
        due(suburb("road 0 1 long 8;road 0 2 long 4;road 2 1 long 4").far(1, 0), 8);
        due(suburb("road 0 1 long 7;road 0 2 long 4;road 2 1 long 4").far(0, 1), 7);
        MilkDays none = new MilkDays();
        for (int a = 0; a < 12; a++) for (int b = 0; b < 12; b++) due(none.far(a, b), a == b ? 0 : NONE);
        MilkDays y = suburb("road 1 2 long 5;road 3 4 long 5", "road 1 2 long 6");
        due(y.far(1, 2), 6);
        due(y.far(1, 3), NONE);
        due(y.far(0, 1), NONE);
        for (int i = 0; i < 12; i++) due(y.far(i, i), 0);
        // Promise 9: "LENGTH of the ROAD; NONE without one (also of one CORNER)."
        due(y.road(1, 2), 6);
        due(x.road(0, 2), NONE);
        due(x.far(0, 2), 18);
        for (int i = 0; i < 12; i++) due(x.road(i, i), NONE);
        // Promise 10: "The STEP at a place of THE ROUND."
        MilkDays z = suburb(steps(0, 0));
        z.change(0, 1);
        due(z.round(0) * 10 + z.round(1), 10);
        for (int place : new int[] {2, -1, HIGHEST, LOWEST}) fails(NO_SUCH, () -> z.round(place));
    }

    // ---- THE ROUND and CHARGE

    private static void leavesAndWay() {
        // Promise 19: "LEAVES, as bits."
        // Promise 20: "PASSED, as bits."
        MilkDays x = star(1, 2, 9, 8);
        // Terms: "LEAVES: STEPS to which the float comes on a MORNING now (bottles or not), as bits; PASSED: those to which it
        // does not."
        due(x.leaves() * 10 + x.passed(), 34);
        x.crates(0);
        due(x.leaves() * 10 + x.passed(), 34);
        x.charge(1);
        due(x.leaves() * 10 + x.passed(), 7);
        x.charge(0);
        due(x.leaves() * 10 + x.passed(), 7);
        // Promise 21: "HOME."
        // Terms: "HOME: how much CHARGE it has left, when it is home."
        due(x.home(), 0);
        x.charge(1);
        due(x.home(), 1);
        x.charge(8);
        due(x.home(), 2);
        due(new MilkDays().home(), 60);
        due(x.leaves() + x.passed() + x.count(DAY) + x.count(ROWS), 7);
        // Promise 22: "WAY; NONE."
        // Terms: "WAY: how FAR it is by THE ROUND from the DAIRY to all STEPS, one behind another, and home (CHARGE not looked
        // at); none, if some cannot be reached."
        due(x.way(), 24);
        x.charge(0);
        due(x.way(), 24);
        put(x, "step at 4 credit 0").suburb();
        due(x.way(), NONE);
        due(new MilkDays().way(), 0);
        due(suburb("step at 0 credit 0").way(), 0);
        due(suburb(steps(4, 4)).way(), NONE);
        due(longRound(7).way(), 201);
        due(suburb(chain(11), times(4, steps(11, 0))).way(), 792);
    }

    private static void shortest() {
        // Promise 23: "SHORT: the least WAY (k NONE; NONE, if there is none), or the k-th STEP; NONE."
        MilkDays x = star(1, 2, 3, 0);
        due(x.shortest(NONE), 12);
        due(x.shortest(0) * 100 + x.shortest(1) * 10 + x.shortest(2), 12);
        for (int k : new int[] {3, 8, -2, HIGHEST, LOWEST}) due(x.shortest(k), NONE);
        x.change(0, 2);
        due(x.shortest(0) * 100 + x.shortest(1) * 10 + x.shortest(2), 12);
        put(x, "step at 9 credit 0").suburb();
        for (int k = -1; k <= 4; k++) due(x.shortest(k), NONE);
        put(x, "road 9 1 long 4").suburb();
        due(x.shortest(NONE), 20);
        due(new MilkDays().shortest(NONE), 0);
        due(new MilkDays().shortest(0), NONE);
        due(suburb("step at 0 credit 0").shortest(NONE), 0);
        due(suburb("step at 0 credit 0").shortest(0), 0);
        // Terms: "SHORT: the least WAY of all orders; the k-th STEP of the first such order (by the first unlike one, the
        // lesser); none."
        MilkDays ring = suburb("road 0 1 long 1;road 1 2 long 1;road 2 3 long 1;road 3 0 long 1;" + steps(3, 1, 2));
        due(ring.shortest(NONE), 4);
        due(ring.shortest(0) * 100 + ring.shortest(1) * 10 + ring.shortest(2), 21);
        MilkDays line = suburb("road 0 1 long 5;road 1 2 long 5;" + steps(2, 1, 2, 0));
        due(line.shortest(NONE), 20);
        // 0 and then 1 would have to come back for 2.
        due(line.shortest(0) * 1000 + line.shortest(1) * 100 + line.shortest(2) * 10 + line.shortest(3), 213);
        MilkDays eight = suburb(times(8, "step at 0 credit 0"));
        for (int k = 0; k < 8; k++) due(eight.shortest(k), k);
        due(eight.shortest(8), NONE);
    }

    private static void most() {
        // Promise 24: "MOST, as bits."
        // Terms: "MOST: of sets of STEPS the most to all of which one comes from the DAIRY and home by some order with CHARGE:
        // of several the least as bits."
        due(star(3, 3, 3, 18).most(), 7);
        due(star(3, 3, 3, 17).most(), 3);
        due(star(3, 3, 3, 12).most(), 3);
        due(star(3, 3, 3, 11).most(), 1);
        due(star(3, 3, 3, 6).most(), 1);
        due(star(3, 3, 3, 5).most(), 0);
        due(star(9, 1, 8, 18).most(), 6);
        due(star(9, 1, 8, 17).most(), 2);
        due(star(9, 1, 8, 0).most(), 0);
        due(new MilkDays().most(), 0);
        MilkDays x = suburb(steps(9, 0, 2, 1) + ";road 0 1 long 1;road 1 2 long 1;charge 0");
        due(x.most(), 2);
        x.charge(4);
        due(x.most(), 14);
        x.charge(3);
        due(x.most(), 10);
        x.charge(200);
        due(x.most(), 14);
        MilkDays order = suburb(steps(1, 0, 1, 0) + ";road 0 1 long 1;charge 2");
        due(order.most(), 15);
        due(order.leaves(), 11);
        due(suburb(times(8, "step at 0 credit 0") + ";charge 0").most(), 255);
        MilkDays far = longRound(7);
        due(far.most(), 18);
        far.charge(200);
        due(far.most(), 63);
    }

    private static void least() {
        // Promise 25: "LEAST; NONE."
        // Terms: "LEAST: the least CHARGE (0 to 200) by which LEAVES by THE ROUND are all; none."
        MilkDays x = longRound(6);
        due(x.way(), 200);
        due(x.least(), 200);
        x.charge(200);
        due(x.leaves(), 63);
        x.charge(199);
        due(x.leaves(), 31);
        due(x.least(), 200);
        MilkDays y = longRound(7);
        due(y.least(), NONE);
        y.charge(200);
        due(y.leaves(), 31);
        due(longRound(5).least(), 199);
        due(new MilkDays().least(), 0);
        due(suburb(steps(0, 0)).least(), 0);
        due(suburb(steps(0, 1)).least(), NONE);
        MilkDays z = suburb("road 0 1 long 2;road 1 2 long 2;" + steps(1, 0, 2));
        due(z.least(), 12);
        z.change(1, 2);
        due(z.least(), 8);
    }

    private static void dairy() {
        // Promise 26: "DAIRY; NONE."
        // Terms: "DAIRY: the CORNER from which FAR to all STEPS together is the least (of several the least; none, if from none
        // all can be reached, or without STEPS)."
        due(new MilkDays().dairy(), NONE);
        due(suburb("road 0 1 long 1").dairy(), NONE);
        due(suburb("step at 11 credit 0").dairy(), 11);
        due(suburb(steps(4, 7)).dairy(), NONE);
        due(suburb(steps(4, 7) + ";road 7 4 long 9").dairy(), 4);
        due(suburb(steps(4, 7, 7) + ";road 7 4 long 9").dairy(), 7);
        due(suburb(steps(4, 7) + ";road 7 1 long 2;road 1 4 long 3").dairy(), 1);
        due(star(5, 5, 5, 0).dairy(), 0);
        due(star(9, 1, 1, 0).dairy(), 0);
        due(suburb(chain(11), steps(0, 0, 0, 11, 11, 11, 11)).dairy(), 11);
        due(suburb(chain(11), steps(0, 0, 0, 0, 11, 11, 11)).dairy(), 0);
    }

    private static void bridges() {
        // Promise 27: "BRIDGES."
        // Terms: "BRIDGES: ROADS without each of which, alone, some STEP that can be reached from the DAIRY could not: how
        // many."
        due(new MilkDays().bridges(), 0);
        due(suburb("road 0 1 long 1;road 1 2 long 1").bridges(), 0);
        due(suburb("road 0 1 long 1;road 1 2 long 1;step at 0 credit 0").bridges(), 0);
        due(suburb("road 0 1 long 1;road 1 2 long 1;step at 1 credit 0").bridges(), 1);
        due(suburb("road 1 0 long 1;road 2 1 long 1;step at 2 credit 0").bridges(), 2);
        due(suburb("road 0 1 long 1;road 1 2 long 1;road 2 0 long 9;step at 2 credit 0").bridges(), 0);
        due(suburb("road 0 1 long 1;road 1 2 long 1;road 2 0 long 9;road 2 11 long 1;step at 11 credit 0").bridges(), 1);
        due(suburb("road 5 6 long 1;step at 6 credit 0").bridges(), 0);
        due(suburb("road 5 6 long 1;" + steps(6, 1) + ";road 0 1 long 1").bridges(), 1);
        due(longRound(7).bridges(), 9);
    }

    private static void cut() {
        // Promise 28: "CUT, as bits."
        // Terms: "CUT of a CORNER: STEPS that could not be reached from the DAIRY any more, if nobody could go through or to
        // that CORNER, as bits (those that cannot be reached now, too)."
        MilkDays x = suburb(steps(0, 1, 2, 9) + ";road 0 1 long 1;road 1 2 long 1;road 9 10 long 1");
        due(x.cut(0), 15);
        due(x.cut(1), 14);
        due(x.cut(2), 12);
        due(x.cut(3), 8);
        due(x.cut(9), 8);
        due(x.cut(11), 8);
        put(x, "road 2 0 long 9").suburb();
        due(x.cut(1), 10);
        put(x, "road 10 2 long 1").suburb();
        due(x.cut(11), 0);
        due(x.cut(10), 8);
        due(new MilkDays().cut(11), 0);
        for (int corner : new int[] {12, -1, HIGHEST, LOWEST}) refused(x, NO_SUCH, () -> x.cut(corner));
    }

    // ---- days ahead

    private static void dries() {
        // Promise 29: "DRIES: in how many DAYS (who false), or who; NONE."
        // Terms: "DRIES: the first N (1 to 60) AHEAD by which some STEP has DRY above 0 in that MORNING; none; who (the least)."
        MilkDays x = suburb(steps(0, 5, 5));
        due(x.dries(false) * 10 + (x.dries(true)), 11);
        due(new MilkDays().dries(false), NONE);
        due(new MilkDays().dries(true), NONE);
        due(suburb("step at 0 credit 0").dries(false), NONE);
        due(suburb("step at 0 credit 0").dries(true), NONE);
        due(suburb("step at 5 credit 0 fresh 9;step at 5 credit 0 fresh 8").dries(false), 9);
        due(suburb("step at 5 credit 0 fresh 9;step at 5 credit 0 fresh 8").dries(true), 1);
        due(suburb("step at 5 credit 0 fresh 9;birds 100;frost 100").dries(false), 10);
        // Once a week the first one takes both bottles; the ninth time nothing is left of the eight of the second one.
        MilkDays w = suburb("step at 0 credit 0 note 3;step at 0 credit 0 fresh 8;crates 2");
        due(w.dries(false) * 10 + w.dries(true), 601);
        w.note(0, 4);
        due(w.dries(false), NONE);
        due(w.dries(true), NONE);
        // One that is DRY now, and has something in that MORNING, is not.
        MilkDays n = suburb("road 0 1 long 1;step at 1 credit 0;charge 1");
        n.mornings(4);
        n.charge(2);
        due(n.step(0, DRY), 4);
        due(n.dries(false), NONE);
    }

    private static void owes() {
        // Promise 30: "OWES; NONE."
        // Terms: "OWES of a STEP: the first N (0 to 60) AHEAD by which its CREDIT is below PRICE; none."
        int[][] owes = {{0, 0}, {1, 0}, {2, 1}, {3, 1}, {4, 2}, {118, 59}, {119, 59}, {120, 60}, {121, 60}, {122, NONE}, {999, NONE}};
        for (int[] of : owes) due(suburb("step at 0 credit " + of[0]).owes(0), of[1]);
        due(suburb("step at 0 credit 0;price 0").owes(0), NONE);
        due(suburb("step at 5 credit 1").owes(0), 0);
        due(suburb("step at 5 credit 2").owes(0), NONE);
        due(suburb("step at 0 credit 4 note 0").owes(0), 1);
        due(suburb("step at 0 credit 2;step at 0 credit 2;crates 1").owes(1), NONE);
        MilkDays x = suburb("step at 0 credit 9");
        due(x.owes(0) * 10 + x.owes(0), 44);
        x.pay(0, 2);
        due(x.owes(0), 5);
        x.crates(0);
        due(x.owes(0), NONE);
        x.crates(1);
        due(x.mornings(1) + x.owes(0), 5);
        for (int step : new int[] {1, -1, HIGHEST, LOWEST}) refused(x, NO_SUCH, () -> x.owes(step));
    }

    private static void pays() {
        // Promise 31: "PAYS; NONE. IllegalArgumentException: N is none."
        // Terms: "PAYS of a STEP and N (0 to 60): the least CREDIT (0 to 999), in place of its own, by which its CREDIT is PRICE
        // at least AHEAD by N; none."
        MilkDays x = suburb("step at 0 credit 500;price 20");
        due(x.pays(0, 0), 20);
        due(x.pays(0, 1), 40);
        due(x.pays(0, 48), 980);
        due(x.pays(0, 49), NONE);
        due(x.pays(0, 60), NONE);
        due(suburb("step at 0 credit 0 note 1;price 16").pays(0, 53), 992);
        due(suburb("step at 0 credit 0 note 1;price 16").pays(0, 54), NONE);
        due(suburb("step at 0 credit 7;price 1").pays(0, 60), 61);
        due(suburb("step at 0 credit 7;price 0").pays(0, 60), 0);
        due(suburb("step at 0 credit 7;price 0").pays(0, 0), 0);
        due(suburb("step at 5 credit 0;price 20").pays(0, 60), 20);
        due(suburb(steps(0, 0) + ";crates 1").pays(1, 60), 2);
        due(suburb("step at 0 credit 0 fresh 9;price 2").pays(0, 5), 12);
        for (int n : new int[] {61, -1, HIGHEST, LOWEST}) refused(x, NO_NUMBER, () -> x.pays(0, n));
        for (int step : new int[] {1, -1, HIGHEST, LOWEST}) {
            refused(x, NO_SUCH, () -> x.pays(step, 0));
            refused(x, NO_SUCH, () -> x.pays(step, 61));
        }
        due(x.step(0, CREDIT), 500);
        x.note(0, 1);
        int[] noted = {20, 40, 80, 100};
        for (int n = 0; n < 4; n++) due(x.pays(0, n), noted[n]);
        x.crates(0);
        due(x.pays(0, 3), 20);
        MilkDays passed = suburb("road 0 1 long 1;step at 1 credit 0;charge 2");
        due(passed.leaves(), 1);
        passed.charge(1);
        due(passed.pays(0, 9), 2);
        // Promise 32: "HOLDS. IllegalArgumentException: N is none."
        // Terms: "HOLDS of N (0 to 60): bottles of all, FRESH and OLD, together AHEAD by N."
        MilkDays y = suburb("step at 5 credit 0 fresh 9;step at 0 credit 2 fresh 3;step at 0 credit 0 note 0;birds 100;frost 100");
        int[] holds = {12, 12, 11, 10};
        for (int n = 0; n < 4; n++) due(y.holds(n), holds[n]);
        // Once a week one more of the third; the ninth time it has 9, and drinks one.
        due(y.holds(60), 3 + 8);
        for (int n : new int[] {61, -1, HIGHEST, LOWEST}) refused(y, NO_NUMBER, () -> y.holds(n));
        due(new MilkDays().holds(60), 0);
        y.mornings(1);
        due(y.holds(0), y.count(ALL_FRESH) + y.count(ALL_OLD));
    }

    // ---- the CHARGE that is not known

    private static void seen() {
        // Promise 33: "Uses the TAPE up: SEEN (of each two bytes: the STEP, 1 or 0; at most 40 bytes): how many CHARGES (low
        // false), or LOW; NONE. IllegalArgumentException: the TAPE is not that (none may be told)."
        MilkDays x = star(1, 2, 9, 60);
        due(x.seen(false), 201);
        due(x.seen(true), 0);
        due(told(x, 0, 1).seen(false), 199);
        due(x.end(1), false);
        due(told(x, 0, 1).seen(true), 2);
        due(told(x, 0, 0).seen(false), 2);
        due(told(x, 0, 0).seen(true), 0);
        due(told(x, 2, 1, 0, 1).seen(true), 24);
        // 18 to 23: the third one alone is not reached, as the first two are ahead of it.
        due(told(x, 0, 1, 1, 1, 2, 0).seen(false), 18);
        due(told(x, 0, 1, 0, 0).seen(false), 0);
        due(told(x, 0, 1, 0, 0).seen(true), NONE);
        due(told(x, 0, 1, 0, 1).seen(false), 199);
        due(told(x, 0, 1, 1, 0).seen(false), 4);
        due(told(x, new int[40]).seen(false), 2);
        int[][] wrong = {{0}, {0, 1, 1}, {3, 1}, {255, 0}, {0, 2}, {0, 255}, {0, 1, 3, 0}, {0, 1, 1, 2}, new int[41], new int[42], new int[400]};
        for (int[] bytes : wrong) {
            refused(told(x, bytes), NO_NUMBER, () -> x.seen(false));
            due(x.end(1), false);
            refused(told(x, bytes), NO_NUMBER, () -> x.seen(true));
            due(x.end(1), false);
        }
        due(new MilkDays().seen(false), 201);
        MilkDays none = new MilkDays();
        fails(NO_NUMBER, () -> told(none, 0, 0).seen(false));
        // Terms: "with an unknown CHARGE (0 to 200): how many CHARGES fit; LOW: the least of these; none."
        due(told(longRound(5), EVERY).seen(false), 2);
        due(told(longRound(5), EVERY).seen(true), 199);
        due(told(longRound(6), EVERY).seen(false), 1);
        due(told(longRound(6), EVERY).seen(true), 200);
        due(told(longRound(7), EVERY).seen(false), 0);
        due(told(longRound(7), EVERY).seen(true), NONE);
        due(told(longRound(6), 1, 1).seen(true), 0);
        x.charge(0);
        due(told(x, 0, 1).seen(false), 199);
        due(x.count(CHARGE), 0);
        // Terms: "SEEN: told are STEPS and whether the float left something (1) or not (0) on a MORNING now": it may come with
        // none
        MilkDays y = suburb("step at 0 credit 0 note 3;step at 0 credit 0;crates 2;day 2");
        due(told(y, 1, 1).seen(false), 201);
        due(told(y, 1, 0).seen(false), 0);
        put(y, "day 3").suburb();
        due(told(y, 1, 1).seen(false), 0);
        due(told(y, 1, 0).seen(false), 201);
        due(y.leaves(), 3);
        MilkDays z = suburb(steps(9, 0, 0) + ";crates 1");
        due(told(z, 0, 0, 1, 1, 2, 0).seen(false), 201);
        due(told(z, 0, 1).seen(false), 0);
    }

    private static void ask() {
        // Promise 34: "Uses the TAPE up: ASK (the TAPE likewise); NONE. IllegalArgumentException: the TAPE is not that."
        // Terms: "ASK: the STEP by which those that fit are parted (left something, or not) so that the greater part is the
        // least (of several the least; none with fewer than two)."
        MilkDays x = star(1, 2, 9, 60);
        due(x.ask(), 2);
        due(told(x, 2, 0).ask(), 1);
        due(x.end(1), false);
        due(told(x, 1, 0).ask(), 0);
        // Parts of 100 and 101, whichever of the two is left something.
        due(suburb("road 0 1 long 1;" + steps(9, 1, 1)).ask(), 1);
        // From 98 on the one is left something, from 142 on the other one: 103 is less than 142; 199 is more than 103.
        String roads = chain(5) + ";road 5 6 long 4;road 6 7 long 9;road 7 8 long 9;road 8 9 long 4;road 0 10 long 1;";
        due(suburb(roads + steps(6, 9)).ask(), 0);
        due(suburb(roads + steps(10, 6)).ask(), 1);
        // None fits, one, two: all are reached by 201, 200, 199 on.
        due(told(longRound(7), EVERY).ask(), NONE);
        due(told(longRound(6), EVERY).ask(), NONE);
        due(told(longRound(5), EVERY).ask(), 0);
        // CHARGES 2 and 3 fit: by 3 the third one is reached, by 4 the second one in place of it.
        MilkDays two = suburb(steps(1, 2, 3) + ";road 0 1 long 1;road 1 2 long 2;road 0 2 long 1;"
            + "road 1 3 long 1;road 0 3 long 1");
        due(told(two, 0, 1, 1, 0).seen(false), 2);
        due(told(two, 0, 1, 1, 0).ask(), 2);
        due(told(two, 0, 1, 1, 0, 2, 0).ask(), NONE);
        // Nothing parts them: the greater part is all for each STEP, and of several it is the least.
        due(suburb(steps(0, 9)).ask(), 0);
        due(new MilkDays().ask(), NONE);
        int[][] wrong = {{0}, {0, 1, 1}, {3, 1}, {255, 0}, {0, 2}, {0, 255}, {0, 1, 1, 2}, new int[41], new int[42], new int[400]};
        for (int[] bytes : wrong) {
            refused(told(x, bytes), NO_NUMBER, x::ask);
            due(x.end(1), false);
        }
        due(told(x, new int[40]).ask(), 0);
        x.charge(0);
        due(x.ask(), 2);
    }

    // ---- STEPS among one another

    private static void neighbours() {
        // Promise 35: "NEIGHBOURS: how many pairs (far false), or FARS together."
        // Promise 36: "NEIGHBOURS: with whom one is; NONE."
        // Terms: "NEIGHBOURS: STEPS put two by two, each in one such pair at most, so that as many as can be are put whose
        // CORNERS can be reached from one another, and by these the FARS together are the least: how many pairs; FARS together;
        // with whom one is in the first such way (STEP by STEP, none behind all others); none."
        due(new MilkDays().neighbours(false) + new MilkDays().neighbours(true), 0);
        MilkDays one = suburb("step at 0 credit 0");
        due(one.neighbours(false) + one.neighbours(true), 0);
        due(one.neighbour(0), NONE);
        due(suburb(steps(0, 1, 0)).neighbour(0), 2);
        MilkDays more = suburb("step at 0 credit 0");
        due(more.neighbours(false), 0);
        put(more, "step at 0 credit 0").suburb();
        due(more.neighbour(1), 0);
        for (int step : new int[] {1, -1, HIGHEST, LOWEST}) fails(NO_SUCH, () -> one.neighbour(step));
        // At 0, 4, 5 and 9 on a line: not the nearest two.
        mates(steps(0, 1, 2, 3) + ";road 0 1 long 4;road 1 2 long 1;road 2 3 long 4",
            2, 8, 1, 0, 3, 2);
        mates(steps(1, 0, 3, 2) + ";road 0 1 long 4;road 1 2 long 1;road 2 3 long 4",
            2, 8, 1, 0, 3, 2);
        mates(steps(1, 3, 0, 2) + ";road 0 1 long 4;road 1 2 long 1;road 2 3 long 4",
            2, 8, 2, 3, 0, 1);
        // All alike.
        mates(times(3, "step at 7 credit 0"), 1, 0, 1, 0, NONE);
        mates(times(8, "step at 7 credit 0"), 4, 0, 1, 0, 3, 2, 5, 4, 7, 6);
        // As many as can be, however far; those that cannot be reached from the DAIRY, too.
        mates(steps(7, 8) + ";road 7 8 long 9", 1, 9, 1, 0);
        mates(steps(7, 8), 0, 0, NONE, NONE);
        mates(steps(9, 7, 8, 7), 1, 0, NONE, 3, NONE, 1);
        // Two may be with the third, and it is with the first one; the least FAR goes ahead of that.
        mates(steps(1, 2, 3) + ";road 1 3 long 2;road 2 3 long 2", 1, 2, 2, NONE, 0);
        mates(steps(1, 2, 3) + ";road 1 3 long 3;road 2 3 long 2", 1, 2, NONE, 2, 1);
        // The first one is with 2, and the second then with 3, though 2 is as near to it.
        mates(steps(1, 2, 1, 3) + ";road 1 2 long 2;road 2 3 long 2", 2, 2, 2, 3, 0, 1);
        // The first one is with 1, or with 2: by both FARS together are the same.
        mates(steps(0, 1, 2, 3) + ";road 0 1 long 1;road 1 3 long 1;road 3 2 long 1;road 2 0 long 1",
            2, 2, 1, 0, 3, 2);
        MilkDays far = suburb(chain(11), steps(0, 11));
        due(far.neighbours(false) * 100 + far.neighbours(true), 199);
    }

    private static void mates(String text, int pairs, int fars, int... mates) {
        MilkDays x = suburb(text);
        due(x.neighbours(false), pairs);
        due(x.neighbours(true), fars);
        for (int step = 0; step < mates.length; step++) due(x.neighbour(step), mates[step]);
    }

    private static void gutter() {
        // Promise 37: "GUTTER. IllegalArgumentException: N is none."
        // Terms: "GUTTER of N bottles (0 to 99): N bottles are shared out, one by one, each to the STEP that is the most DRY and
        // had the fewest of these so far (DRY less twice what it had is the greatest; of several the least): how many a STEP
        // has."
        MilkDays x = suburb(steps(5, 0, 5));
        x.mornings(3);
        int[][] had = {{0, 0, 0}, {1, 0, 0}, {1, 0, 1}, {2, 0, 1}, {2, 0, 2}, {2, 1, 2}, {3, 1, 2}, {3, 1, 3}, {3, 2, 3}};
        for (int n = 0; n < had.length; n++) for (int s = 0; s < 3; s++) due(x.gutter(s, n), had[n][s]);
        due(x.gutter(0, 99) * 10000 + x.gutter(1, 99) * 100 + x.gutter(2, 99), 343233);
        due(x.gutter(0, 0), 0);
        due(suburb("step at 0 credit 0").gutter(0, 99), 99);
        for (int n : new int[] {100, -1, HIGHEST, LOWEST}) refused(x, NO_NUMBER, () -> x.gutter(0, n));
        for (int step : new int[] {3, -1, HIGHEST, LOWEST}) {
            refused(x, NO_SUCH, () -> x.gutter(step, 0));
            refused(x, NO_SUCH, () -> x.gutter(step, 100));
        }
    }

    private static void rests() {
        // Promise 38: "RESTS, as bits. IllegalArgumentException: both are one."
        // Terms: "RESTS of two STEPS: each of them drinks (0) or keeps (1), unseen: who drinks has FRESH twice and OLD once,
        // less what the other one has OLD, if that one keeps; who keeps has OLD twice, and 3 more, if the other one keeps, too:
        // choices (2 times the first one's and the second one's) from which neither would have more by its other one: as bits."
        MilkDays none = suburb(steps(5, 5) + ";step at 5 credit 0 fresh 9");
        due(none.rests(0, 1), 1 + 8);
        // The third drinks in any case; for the first both are 0 then.
        due(none.rests(2, 0), 1 + 2);
        due(none.rests(0, 2), 1 + 4);
        MilkDays x = suburb("step at 5 credit 0 fresh 2;step at 5 credit 0");
        x.mornings(1);
        put(x, "step at 5 credit 0 fresh 9").suburb();
        x.lend(2, 0);
        x.lend(2, 0);
        // FRESH 2 and OLD 1: drinks 5; keeps 2, or 5, if the other one keeps. The other one: drinks 0, or -1; keeps 0, or 3.
        due(bottles(x, 0), 2010100);
        due(x.rests(0, 1), 1 + 2 + 8);
        due(x.rests(1, 0), 1 + 4 + 8);
        // The third has FRESH 7: drinks 14, or 13, if the first keeps; the first then drinks 5, or keeps 2.
        due(x.rests(0, 2), 1);
        x.lend(0, 1);
        // OLD 1: drinks 1; keeps 2, or 5. FRESH 2: drinks 4, or 3, if the other one keeps; keeps 0, or 3.
        due(bottles(x, 0) + bottles(x, 1), 2010101);
        due(x.rests(1, 0), 4 + 8);
        due(x.rests(0, 1), 2 + 8);
        refused(x, NO_NUMBER, () -> x.rests(0, 0));
        refused(x, NO_NUMBER, () -> x.rests(2, 2));
        for (int step : new int[] {3, -1, HIGHEST, LOWEST}) {
            refused(x, NO_SUCH, () -> x.rests(step, 0));
            refused(x, NO_SUCH, () -> x.rests(0, step));
            refused(x, NO_SUCH, () -> x.rests(step, step));
        }
    }

    private static void crossAndSwap() {
        // Promise 39: "CROSS."
        // Terms: "CROSS: pairs of places of THE ROUND, next to each other, by whose change alone WAY is less: how many (0, if
        // WAY is none)."
        // Promise 40: "SWAP; NONE."
        // Terms: "SWAP: the pair of places by whose change alone WAY is the least, and less than now: 8 times the lesser place
        // and the other one (of several the least; none)."
        String two = "road 0 1 long 1;road 0 2 long 1;";
        crosses(suburb(two + steps(1, 2, 1, 2)), 8, 3, 3);
        crosses(suburb(two + steps(1, 1, 2, 2)), 4, 0, NONE);
        // By two places that are not next to each other, and by these alone, it is less.
        crosses(suburb(two + steps(1, 0, 0, 1)), 4, 0, 2);
        crosses(suburb(two + steps(1, 2, 1)), 6, 2, 1);
        crosses(suburb("road 0 1 long 1;road 1 2 long 1;road 2 3 long 1;" + steps(3, 1, 3)), 10, 2, 1);
        crosses(suburb("road 0 1 long 3;road 1 2 long 3;" + steps(2, 0, 1, 1)), 18, 1, 1);
        crosses(suburb("road 0 1 long 3;road 1 2 long 3;" + steps(1, 0, 1, 2)), 18, 1, 1);
        crosses(suburb("road 0 1 long 3;" + steps(0, 1)), 6, 0, NONE);
        crosses(suburb("step at 0 credit 0"), 0, 0, NONE);
        crosses(new MilkDays(), 0, 0, NONE);
        crosses(suburb(two + steps(1, 2, 1, 9)), NONE, 0, NONE);
        MilkDays last = suburb("road 0 1 long 1;road 0 2 long 1;" + times(5, "step at 1 credit 0") + ";" + steps(2, 1, 2));
        crosses(last, 8, 2, 8 * 5 + 6);
        due(last.change(6, 7), 7);
        crosses(last, 6, 0, 8 * 5 + 7);
    }

    private static void crosses(MilkDays x, int way, int cross, int swap) {
        due(x.way(), way);
        due(x.cross(), cross);
        due(x.swap(), swap);
    }

    private static void sets() {
        MilkDays x = suburb("step at 1 credit 5 kind 3 note 6 dog;step at 1 credit 7;step at 2 credit 7 kind 3 note 0;step at 1 credit 0 kind 3");
        // Promise 41: "FOIL, as bits."
        // Terms: "FOIL of a KIND: STEPS of it, as bits. DOGS, as bits."
        due(x.foil(0) * 100 + x.foil(3), 213);
        due(x.foil(1) + x.foil(2), 0);
        for (int kind : new int[] {4, -1, HIGHEST, LOWEST}) fails(NO_SUCH, () -> x.foil(kind));
        // Promise 42: "DOGS, as bits."
        due(x.dogs(), 1);
        due(suburb("step at 0 credit 0").dogs(), 0);
        // Promise 43: "NOTED, as bits."
        // Terms: "NOTED of a day of the week (0 to 6): STEPS with that NOTE, as bits."
        due(x.noted(6) * 10 + x.noted(0), 14);
        for (int day = 1; day < 6; day++) due(x.noted(day), 0);
        for (int day : new int[] {7, NONE, HIGHEST, LOWEST}) fails(NO_SUCH, () -> x.noted(day));
        // Promise 44: "THIRSTY; NONE."
        // Terms: "THIRSTY: the STEP of the most DRY (of several the least; none, if none is above 0)."
        due(new MilkDays().thirsty(), NONE);
        due(x.thirsty(), NONE);
        MilkDays y = suburb(steps(0, 5, 5));
        y.mornings(1);
        due(y.thirsty(), 1);
        MilkDays z = suburb("step at 5 credit 0 fresh 1;" + steps(5, 5));
        z.mornings(2);
        due(z.thirsty(), 1);
        z.lend(put(z, "step at 5 credit 0 fresh 1").suburb() + 1, 1);
        z.mornings(1);
        due(z.thirsty(), 2);
        MilkDays first = suburb(steps(5, 5, 0));
        first.mornings(1);
        due(first.thirsty(), 0);
        // Promise 45: "RICH; NONE."
        // Terms: "RICH: the STEP of the most CREDIT (of several the least; none)."
        due(new MilkDays().rich(), NONE);
        due(x.rich(), 1);
        x.pay(2, 1);
        due(x.rich(), 2);
        x.pay(0, 3);
        due(x.rich(), 0);
        due(suburb(steps(0, 0)).rich(), 0);
        // Promise 47: "TWINS."
        // Terms: "TWINS: pairs of STEPS of like CORNER and KIND: how many."
        due(x.twins(), 1);
        x.kind(1, 3);
        due(x.twins(), 3);
        due(new MilkDays().twins(), 0);
        due(suburb("step at 0 credit 0").twins(), 0);
        due(suburb(steps(0, 1) + ";step at 0 credit 0 kind 1").twins(), 0);
        due(suburb(times(8, "step at 11 credit 0 kind 3")).twins(), 28);
    }

    private static void odds() {
        // Promise 46: "ODDS. IllegalArgumentException: N is none."
        // Terms: "ODDS of a STEP and N DAYS (0 to 4): that nothing of it breaks, each DAY alike by what it BREAKS by now (100 at
        // most), in 10000, rounded down each time."
        MilkDays x = law(suburb("step at 0 credit 0;step at 0 credit 0 dog;step at 0 credit 0;frost 33"), "break 67 if dog;break 68 if step > 1");
        int[] odds = {10000, 6700, 4489, 3007, 2014};
        for (int n = 0; n <= 4; n++) due(x.odds(0, n), odds[n]);
        // 100 exactly, and 101, which counts as 100.
        for (int step = 1; step <= 2; step++) due(x.odds(step, 0) * 10 + x.odds(step, 1) + x.odds(step, 4), 100000);
        due(suburb("step at 0 credit 0").odds(0, 4), 10000);
        due(suburb("step at 0 credit 0;frost 1").odds(0, 3), 9702);
        due(suburb("step at 0 credit 0;frost 99").odds(0, 2) * 10 + suburb("step at 0 credit 0;frost 99").odds(0, 3), 10);
        for (int n : new int[] {5, -1, HIGHEST, LOWEST}) refused(x, NO_NUMBER, () -> x.odds(0, n));
        for (int step : new int[] {3, -1, HIGHEST, LOWEST}) {
            refused(x, NO_SUCH, () -> x.odds(step, 0));
            refused(x, NO_SUCH, () -> x.odds(step, 5));
        }
    }

    private static void count() {
        // Promise 57: "0 STEPS, 1 texts of THE SUBURB, 2 LINES of THE LAW (NONE without one), 3 DAY, 4 CHARGE, 5 CRATES, 6
        // PRICE, 7 BIRDS, 8 FROST, 9 ROADS, 10 FRESH ones of all, 11 OLD ones of all, 12 rows of THE LOG, 13 acts that can be
        // UNDONE."
        MilkDays x = suburb("step at 5 credit 0 fresh 9;step at 0 credit 0;charge 11;crates 12;price 13;birds 0;frost 0;day 14;road 0 1 long 1");
        x.mornings(2);
        put(x, "step at 5 credit 0 fresh 4;step at 5 credit 0 fresh 2;birds 15;frost 16;road 2 1 long 1;road 1 2 long 3").suburb();
        law(x, "sour 1;sour 1;bird 1");
        x.charge(17);
        x.crates(18);
        int[] all = {4, 2, 3, 16, 17, 18, 13, 15, 16, 2, 6, 7, 2, 2};
        for (int what = 0; what <= 13; what++) due(x.count(what), all[what]);
        // Promise 57: "NONE for another what."
        for (int what : new int[] {14, -1, HIGHEST, LOWEST}) due(x.count(what), NONE);
    }

    public static void main(String[] args) {
        step();
        shares();
        farAndRoad();
        leavesAndWay();
        shortest();
        most();
        least();
        dairy();
        bridges();
        cut();
        dries();
        owes();
        pays();
        seen();
        ask();
        neighbours();
        gutter();
        rests();
        crossAndSwap();
        sets();
        odds();
        count();
        done("EdgesAskedTest");
    }
}
