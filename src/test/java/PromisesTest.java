import java.util.NoSuchElementException;

/** Promise by promise: ordinary inputs, the edges that the document names, wrong inputs; all reckoned by hand. */
final class PromisesTest {
    private static final Check check = new Check();
    private static final int NONE = MilkDays.NONE;

    private static final Class<IndexOutOfBoundsException> NO_SUCH = IndexOutOfBoundsException.class;
    private static final Class<IllegalArgumentException> NO_NUMBER = IllegalArgumentException.class;
    private static final Class<IllegalStateException> CANNOT = IllegalStateException.class;
    private static final Class<NoSuchElementException> NO_WHAT = NoSuchElementException.class;
    private static final Class<UnsupportedOperationException> FULL = UnsupportedOperationException.class;

    // Four STEPS on a tree of ROADS: 0 - 1 - 2 - 3 and 0 - 4; FAR from the DAIRY 2, 5, 5, 2.
    private static final String TREE = "step at 1 credit 10;step at 2 credit 1 kind 1 fresh 2;"
        + "step at 4 credit 50 note 3 dog;step at 1 credit 20 kind 2;road 0 1 long 2;road 1 2 long 3;"
        + "road 2 3 long 1;road 0 4 long 5;charge 20;crates 4;price 2;day 3";

    private static MilkDays tree() {
        return Check.suburb(TREE);
    }

    private static MilkDays line(String more) {
        return Check.suburb("road 0 1 long 1;road 1 2 long 2;road 2 3 long 4" + more);
    }

    private static void same(String name, Object got, Object due) {
        check.same(name, got, due);
    }

    private static void wrongSuburb(String text, int fault) {
        MilkDays x = Check.put(new MilkDays(), text);
        check.fails("suburb " + text, NO_NUMBER, x::suburb);
        same("fault of " + text, x.fault(), fault);
        same("tape behind " + text, x.end(1), false);
        same("nothing stays of " + text, x.count(0) + x.count(1) + x.count(3) + x.count(9), 0);
        same("charge stays with " + text, x.count(4), 60);
    }

    private static void wrongLaw(String text, int fault) {
        MilkDays x = Check.law(new MilkDays(), "sour 1;sour 2");
        Check.put(x, text);
        check.fails("law " + text, NO_NUMBER, x::law);
        same("fault of " + text, x.fault(), fault);
        same("tape behind " + text, x.end(1), false);
        same("the law ahead of it stays with " + text, x.count(2), 2);
    }

    private static int sours(MilkDays x, int step, String condition) {
        Check.law(x, "sour 7 if " + condition);
        return x.step(step, 11);
    }

    private static void p1() {
        MilkDays x = new MilkDays();
        int[] due = {0, 0, NONE, 0, 60, 20, 2, 0, 0, 0, 0, 0, 0, 0};
        for (int i = 0; i < due.length; i++) same("new: count " + i, x.count(i), due[i]);
        same("new: fault", x.fault(), NONE);
        same("new: way", x.way(), 0);
        same("new: home", x.home(), 60);
        same("new: leaves", x.leaves(), 0);
        same("new: passed", x.passed(), 0);
        same("new: shortest", x.shortest(NONE), 0);
        same("new: shortest 0", x.shortest(0), NONE);
        same("new: least", x.least(), 0);
        same("new: most", x.most(), 0);
        same("new: dairy", x.dairy(), NONE);
        same("new: dries", x.dries(false), NONE);
        same("new: rich", x.rich(), NONE);
        same("new: thirsty", x.thirsty(), NONE);
        same("new: swap", x.swap(), NONE);
        same("new: cross", x.cross(), 0);
        same("new: neighbours", x.neighbours(false), 0);
        same("new: neighbours far", x.neighbours(true), 0);
        same("new: seen", x.seen(false), 201);
        same("new: ask", x.ask(), NONE);
        same("new: mornings", x.mornings(2), 0);
        same("new: day then", x.count(3), 2);
        same("new: seed", new MilkDays().seed(5), 1);
        same("NONE", NONE, -1);
        same("new: far", new MilkDays().far(3, 4), NONE);
        same("new: far of one", new MilkDays().far(11, 11), 0);
    }

    private static void p2and3() {
        MilkDays x = new MilkDays();
        same("feed", x.feed(0x64617920, 0x37000000, -1, 0, 0), 20);
        same("end: more than there are", x.end(21), false);
        same("end: below 0", x.end(-1), false);
        same("feed again", x.feed(0, 0, 0, 0, 0), 40);
        same("end: all", x.end(40), true);
        same("end: the first five", x.end(5), true);
        same("end: the sixth is gone", x.end(6), false);
        same("feed: the highest byte first", x.suburb(), 1);
        same("feed: day 7", x.count(3), 7);
        for (int i = 1; i <= 20; i++) same("feed " + i, x.feed(0, 0, 0, 0, 0), 20 * i);
        same("feed: more than 400", x.feed(0, 0, 0, 0, 0), NONE);
        same("feed: none came", x.end(400), true);
        same("end 381", x.end(381), true);
        same("feed: 401 would be", x.feed(0, 0, 0, 0, 0), NONE);
        same("end: 381 yet", x.end(382), false);
        same("end 380", x.end(380), true);
        same("feed: 400", x.feed(0, 0, 0, 0, 0), 400);
        same("end 0", x.end(0), true);
        same("end 0 of none", x.end(0), true);
    }

    private static void p4() {
        MilkDays x = Check.put(new MilkDays(), TREE);
        same("suburb", x.suburb(), 1);
        same("suburb uses the tape up", x.end(1), false);
        same("suburb: empty", x.suburb(), 2);
        same("suburb: blanks", Check.put(x, "   ").suburb(), 3);
        same("suburb: behind another", Check.put(x, " step at11credit 0  kind3 fresh 9note 6 dog ; price 0 ").suburb(), 4);
        int[] due = {11, 3, 0, 9, 0, 0, 0, 6, 1, 0, 0, 0, 0, 0, 4};
        for (int i = 0; i < due.length; i++) same("suburb: step 4 " + i, x.step(4, i), due[i]);
        same("suburb: price", x.count(6), 0);
        same("suburb: road anew", Check.put(x, "road 2 1 long 9;road 1 2 long 7").suburb(), 5);
        same("suburb: road told last", x.road(1, 2), 7);
        same("suburb: roads", x.count(9), 4);
        same("suburb: bounds", Check.put(x, "charge 200;crates 99;price 20;birds 100;frost 100;day 999;charge 000;road 11 10 long 9").suburb(), 6);
        same("suburb: charge told last", x.count(4), 0);
        same("suburb: crates", x.count(5), 99);
        same("suburb: birds", x.count(7), 100);
        same("suburb: frost", x.count(8), 100);
        same("suburb: day", x.count(3), 999);
        same("suburb: 14 lines", Check.put(x, "day 1" + ";day 2".repeat(13)).suburb(), 7);
        for (int i = 8; i <= 12; i++) same("suburb: text " + i, x.suburb(), i);
        x.pay(0, 1);
        Check.put(x, "day 8");
        check.fails("suburb: 12 there are", FULL, x::suburb);
        same("suburb: refused", x.count(3), 2);
        same("suburb: refused, fault", x.fault(), NONE);
        same("suburb: refused, tape", x.end(1), false);
        same("suburb: refused, acts", x.count(13), 1);
        Check.put(x, "day x");
        check.fails("suburb: wrong goes ahead of 12", NO_NUMBER, x::suburb);
        same("suburb: wrong, fault", x.fault(), 4);
        MilkDays z = Check.suburb("step at 0 credit 0 kind 0 fresh 0 note 0;birds 0;frost 0;day 0;road 10 11 long 1;crates 0;charge 0");
        same("suburb: a note for day 0", z.step(0, 7), 0);
        same("suburb: a road of length 1", z.road(11, 10), 1);
        same("suburb: eight steps", Check.put(new MilkDays(), "step at 1 credit 1" + ";step at 1 credit 1".repeat(7)).suburb(), 1);
    }

    private static void p4wrong() {
        wrongSuburb("day", 3);
        wrongSuburb("day ", 4);
        wrongSuburb("day 1;", 6);
        wrongSuburb("day 1 ; ", 8);
        wrongSuburb(";", 0);
        wrongSuburb(" ;day 1", 1);
        wrongSuburb("day 1;;day 2", 6);
        wrongSuburb("day 1 day 2", 6);
        wrongSuburb("day 1x", 5);
        wrongSuburb("days 1", 0);
        wrongSuburb("stepz at 1", 0);
        wrongSuburb("stepa at 1", 0);
        wrongSuburb("Day 1", 0);
        wrongSuburb("dayX 1", 3);
        wrongSuburb("day\t1", 3);
        wrongSuburb("day -1", 4);
        wrongSuburb("day 0001", 4);
        wrongSuburb("day 4294967297", 4);
        wrongSuburb("7 day", 0);
        wrongSuburb("day 1" + (char) 0, 5);
        wrongSuburb("day 1 " + (char) 255, 6);
        wrongSuburb("step 1", 5);
        wrongSuburb("step at 12 credit 1", 8);
        wrongSuburb("step at 1", 9);
        wrongSuburb("step at 1 kind 1", 10);
        wrongSuburb("step at 1 credit 1000", 17);
        wrongSuburb("step at 1 credit 1 kind 4", 24);
        wrongSuburb("step at 1 credit 1 fresh 10", 25);
        wrongSuburb("step at 1 credit 1 note 7", 24);
        wrongSuburb("step at 1 credit 1 dog dog", 23);
        wrongSuburb("step at 1 credit 1 fresh 1 kind 1", 27);
        wrongSuburb("step at 1 credit 1 dog note 1", 23);
        wrongSuburb("road 1 1 long 1", 7);
        wrongSuburb("road 12 1 long 1", 5);
        wrongSuburb("road 1 12 long 1", 7);
        wrongSuburb("road 1 2 3", 9);
        wrongSuburb("road 1 2 long 0", 14);
        wrongSuburb("road 1 2 long 10", 14);
        wrongSuburb("charge 201", 7);
        wrongSuburb("crates 100", 7);
        wrongSuburb("price 21", 6);
        wrongSuburb("birds 101", 6);
        wrongSuburb("frost 101", 6);
        wrongSuburb("step at 1 credit 5;road 0 1 long 3;charge 5;day 9;day 1000", 54);
        wrongSuburb("day 1" + ";day 1".repeat(14), 84);
        wrongSuburb("day 1" + ";day 1".repeat(13) + ";", 84);
        wrongSuburb("step at 1 credit 1" + ";step at 1 credit 1".repeat(8), 152);
        MilkDays x = Check.suburb("step at 1 credit 1" + ";step at 1 credit 1".repeat(6));
        Check.put(x, "step at 1 credit 1; step at 1 credit 1");
        check.fails("suburb: a ninth step in all", NO_NUMBER, x::suburb);
        same("suburb: a ninth step, fault", x.fault(), 20);
        same("suburb: a ninth step, steps", x.count(0), 7);
    }

    private static void p5() {
        MilkDays x = tree();
        x.pay(0, 1);
        same("law", Check.put(x, "bird 5;break 100 if dog;sour 3 if kind > 0").law(), 3);
        same("law: a text forgets acts", x.count(13), 0);
        same("law uses the tape up", x.end(1), false);
        same("law: pecks", x.step(0, 9), 5);
        same("law: breaks with a dog", x.step(2, 10), 100);
        same("law: breaks without", x.step(0, 10), 0);
        same("law: sours by kind 0", x.step(0, 11), 0);
        same("law: sours by kind 1", x.step(1, 11), 3);
        same("law: 12 lines", Check.put(x, "sour 1" + ";sour 1".repeat(11)).law(), 12);
        same("law: sum of all lines", x.step(0, 11), 12);
        same("law: in place of the one ahead", x.step(0, 9), 0);
        same("law: 0", Check.put(x, "sour 0").law(), 1);
        same("law: blanks", Check.put(x, "  ").law(), 0);
        same("law: no lines", x.step(0, 11), 0);
        same("law: more than 100", Check.put(x, "bird 100;bird 100").law() + x.step(0, 9), 202);
        Check.put(x, "birds 9;frost 8").suburb();
        same("law: with birds", x.step(0, 9), 209);
        same("law: with frost", x.step(0, 10), 8);
        same("law: stays with a suburb's text", x.count(2), 2);
        same("law: six deep", Check.put(x, "sour 5 if not(not(not(1<2)))").law(), 1);
        same("law: six deep holds", x.step(0, 11), 0);
        same("law: six deep beside one another", sours(x, 0, "((((((1<2)))))) and not not not not not not dog or (dog)"), 0);
        conditions();
    }

    private static void conditions() {
        // STEP 1: corner 2, kind 1, credit 1, fresh 2; STEP 2: credit 50, note 3, dog. DAY 3.
        MilkDays x = tree();
        same("or behind and", sours(x, 0, "dog and dog or 1<2"), 7);
        same("and ahead of or", sours(x, 0, "1<2 or dog and dog"), 7);
        same("brackets", sours(x, 0, "(1<2 or dog) and dog"), 0);
        same("not binds one atom", sours(x, 0, "not dog or 1<2"), 7);
        same("not of and", sours(x, 0, "not dog and 2<1"), 0);
        same("< of like ones", sours(x, 0, "2<2"), 0);
        same("> of like ones", sours(x, 0, "2>2"), 0);
        same(">", sours(x, 0, "3>2"), 7);
        same("sums", sours(x, 0, "1+2+3<1+2+3+1"), 7);
        same("sums, not less", sours(x, 0, "1+2+3+1<1+2+3"), 0);
        same("step", sours(x, 1, "step<2 and step>0"), 7);
        same("corner", sours(x, 1, "corner>1 and corner<3"), 7);
        same("kind", sours(x, 1, "kind>0 and kind<2"), 7);
        same("credit", sours(x, 2, "credit>49 and credit<51"), 7);
        same("fresh", sours(x, 1, "fresh>1 and fresh<3"), 7);
        same("week", sours(x, 1, "week>2 and week<4"), 7);
        same("noted that day", sours(x, 2, "noted"), 7);
        same("noted: no note", sours(x, 0, "noted"), 0);
        same("not noted", sours(x, 2, "not noted"), 0);
        same("not dog", sours(x, 2, "not dog or not not not dog"), 0);
        for (int i = 0; i < 9; i++) sours(x, 0, "1" + "+1".repeat(180) + "<1");
        same("the codes of laws ahead are gone", sours(x, 0, "1<2"), 7);
        same("dog", sours(x, 2, "dog"), 7);
        x.mornings(1);
        same("noted on another day", sours(x, 2, "noted"), 0);
        same("old", sours(x, 1, "old>1 and old<3"), 7);
        same("dry", sours(x, 3, "dry>0 and dry<2"), 7);
        Check.put(x, "day 13").suburb();
        same("week: modulo 7", sours(x, 1, "week>5 and week<7"), 7);
    }

    private static void p5wrong() {
        wrongLaw("bird", 4);
        wrongLaw("5", 0);
        wrongLaw("5 if dog", 0);
        wrongLaw("bird 101", 5);
        wrongLaw("bird 0001", 5);
        wrongLaw("birds 1", 0);
        wrongLaw("day 1", 0);
        wrongLaw("sour 5 dog", 7);
        wrongLaw("sour 5 if", 9);
        wrongLaw("sour 5 if ", 10);
        wrongLaw("sour 5 if old", 13);
        wrongLaw("sour 5 if old <", 15);
        wrongLaw("sour 5 if old + < 1", 16);
        wrongLaw("sour 5 if old < 1000", 16);
        wrongLaw("sour 5 if old = 1", 14);
        wrongLaw("sour 5 if old < 1 < 2", 18);
        wrongLaw("sour 5 if dog < 1", 14);
        wrongLaw("sour 5 if dog and", 17);
        wrongLaw("sour 5 if dog or or", 17);
        wrongLaw("sour 5 if (dog", 14);
        wrongLaw("sour 5 if dog)", 13);
        wrongLaw("sour 5 if ()", 11);
        wrongLaw("sour 5 if (1)+2<3", 12);
        wrongLaw("sour 5 if cat", 10);
        wrongLaw("sour 5 if empty > 1", 10);
        wrongLaw("sour 5;", 7);
        wrongLaw("sour 5 if not not not not not not not dog", 34);
        wrongLaw("sour 5 if (((((((dog)))))))", 16);
        wrongLaw("sour 5 if not (not (not (not dog)))", 25);
        wrongLaw("sour 5 if dog or ((((((dog))))) or ((((((dog)))))))", 40);
        wrongLaw("sour 5" + ";sour 5".repeat(12), 84);
        wrongLaw("sour 5" + ";sour 5".repeat(11) + ";", 84);
    }

    private static void p6() {
        MilkDays x = Check.put(new MilkDays(), "day x");
        check.fails("fault: a wrong text", NO_NUMBER, x::suburb);
        same("fault: of the latest text", x.fault(), 4);
        Check.put(x, "sour 1").law();
        same("fault: a right one", x.fault(), NONE);
        Check.put(x, "sour 1 1");
        check.fails("fault: a wrong law", NO_NUMBER, x::law);
        same("fault: of a law", x.fault(), 7);
        Check.put(x, "day x");
        check.fails("fault: wrong", NO_NUMBER, x::suburb);
        x.image();
        same("fault: seen reads no text", x.seen(false), 201);
        x.back();
        same("fault: stays, going back", x.fault(), 4);
        Check.put(x, "ab");
        check.fails("fault: seen", NO_NUMBER, () -> x.seen(false));
        same("fault: stays with seen", x.fault(), 4);
    }

    private static void p7() {
        MilkDays x = tree();
        check.fails("step: none", NO_SUCH, () -> x.step(4, 0));
        check.fails("step: below", NO_SUCH, () -> x.step(-1, 99));
        check.fails("step: what", NO_WHAT, () -> x.step(0, 15));
        check.fails("step: what below", NO_WHAT, () -> x.step(0, -1));
        int[][] due = {{1, 0, 10, 0, 0, 0, 0, NONE, 0, 0, 0, 0, 12, 2, 0}, {2, 1, 1, 2, 0, 0, 0, NONE, 0, 0, 0, 0, 1, 0, 1},
            {4, 0, 50, 0, 0, 0, 0, 3, 1, 0, 0, 0, 61, 0, 2}, {1, 2, 20, 0, 0, 0, 0, NONE, 0, 0, 0, 0, 24, 2, 3}};
        for (int s = 0; s < 4; s++) for (int w = 0; w < 15; w++) same("step " + s + " " + w, x.step(s, w), due[s][w]);
        x.change(0, 2);
        same("step: place", x.step(2, 14), 0);
        same("step: place of the other", x.step(0, 14), 2);
        x.mornings(1);
        same("step: empty", x.step(1, 5), 1);
        same("step: old", x.step(1, 4), 2);
        MilkDays y = Check.suburb("step at 1 credit 0;step at 5 credit 0;step at 6 credit 0;road 0 1 long 1;road 5 6 long 1");
        same("share without credit", y.step(0, 12), 0);
        same("outer, of those not reached none", y.step(0, 13), 0);
        same("outer: not reached itself", y.step(1, 13), 0);
        MilkDays z = Check.suburb("step at 1 credit 0;step at 0 credit 1;road 0 1 long 1");
        same("outer: the first one is farther", z.step(1, 13), 1);
        same("share: all of 1", z.step(1, 12), 100);
    }

    private static void p8to10() {
        MilkDays x = Check.suburb("road 0 1 long 9;road 0 2 long 3;road 2 1 long 4;road 5 6 long 2;step at 0 credit 0;step at 0 credit 0");
        same("far: by another", x.far(0, 1), 7);
        same("far: each way", x.far(1, 0), 7);
        same("far: itself", x.far(11, 11), 0);
        same("far: none", x.far(0, 5), NONE);
        check.fails("far: corner", NO_SUCH, () -> x.far(12, 0));
        check.fails("far: other", NO_SUCH, () -> x.far(0, -1));
        same("road", x.road(0, 1), 9);
        same("road: each way", x.road(1, 2), 4);
        same("road: none", x.road(0, 5), NONE);
        same("road: of one corner", x.road(1, 1), NONE);
        check.fails("road: corner", NO_SUCH, () -> x.road(-1, 0));
        check.fails("road: other", NO_SUCH, () -> x.road(0, 12));
        same("round", x.round(1), 1);
        x.change(0, 1);
        same("round, changed", x.round(1), 0);
        check.fails("round: place", NO_SUCH, () -> x.round(2));
        check.fails("round: below", NO_SUCH, () -> x.round(-1));
    }

    private static void state(MilkDays x, String name, int step, int... due) {
        for (int i = 0; i < due.length; i++) same(name + ": " + (i + 2), x.step(step, i + 2), due[i]);
    }

    private static void p11float() {
        // CHARGE 20: to 1 (2), to 2 (3), to 4 (10), home (5); the last one is passed over.
        MilkDays x = tree();
        same("mornings", x.mornings(1), 4);
        state(x, "paid, drunk fresh", 0, 8, 0, 0, 1, 0);
        state(x, "not paid: old, fresh ones get old", 1, 1, 0, 2, 1, 0);
        state(x, "noted: two", 2, 46, 0, 1, 1, 0);
        state(x, "passed over", 3, 20, 0, 0, 0, 1);
        same("mornings: day", x.count(3), 4);
        same("mornings: seeds drawn: two draws for steps 0, 1, 2 each", x.seed(1), seedBehind(6));
        check.fails("mornings: none", NO_NUMBER, () -> x.mornings(0));
        check.fails("mornings: 61", NO_NUMBER, () -> x.mornings(61));
        same("mornings: 60", x.mornings(60), 60 * 3 + 8);
        same("mornings: nothing changed by none", x.count(13), 2);
        int rows = x.count(12);
        x.charge(0);
        same("mornings: all passed over", x.mornings(1), 0);
        same("mornings: passed over, no row", x.count(12), rows);
        same("dry: one more", x.step(0, 6), 1);
        x.charge(20);
        x.mornings(1);
        same("dry: 0 with a bottle", x.step(0, 6), 0);
        MilkDays y = line(";step at 3 credit 9;step at 1 credit 9;charge 13");
        same("as much as both are far is needed: 14", y.mornings(1), 1);
        same("the nearer one is reached", y.led(1, false), 1);
        y.charge(14);
        same("14 does", y.leaves(), 3);
        MilkDays z = line(";step at 1 credit 2;step at 5 credit 9;step at 1 credit 2;crates 2;price 2");
        z.note(0, 0);
        same("crates: as many as are on the float", z.mornings(1), 2);
        same("it comes all the same", z.leaves(), 5);
        state(z, "the last of them: none was left", 2, 2, 0, 0, 0, 1);
        state(z, "paid one, the other old", 0, 0, 0, 1, 1, 0);
    }

    private static int seedBehind(int draws) {
        int seed = 1;
        for (int i = 0; i < draws; i++) seed = (int) (seed * 1103515245L + 12345L);
        return seed;
    }

    private static void p11caps() {
        MilkDays x = Check.suburb("step at 0 credit 999 fresh 9;price 0;crates 1");
        same("fresh: 9 at most, and left all the same", x.mornings(1), 1);
        state(x, "fresh 9", 0, 999, 0, 8, 1, 0);
        x.mornings(1);
        state(x, "old drunk ahead of fresh", 0, 999, 0, 8, 1, 0);
        x.crates(0);
        x.mornings(8);
        state(x, "comes with none: empty is 0 then, and drinks", 0, 999, 0, 0, 1, 0);
        x.mornings(1);
        state(x, "dry", 0, 999, 0, 0, 0, 1);
        x.mornings(60);
        x.mornings(60);
        same("dry: 99 at most", x.step(0, 6), 99);
        MilkDays y = Check.suburb("step at 5 credit 0 fresh 9;day 999");
        y.mornings(9);
        state(y, "empty piles up where the float does not come", 0, 0, 0, 0, 9, 0);
        y.mornings(1);
        state(y, "dry there", 0, 0, 0, 0, 9, 1);
        same("day goes on", y.count(3), 1009);
        for (int i = 0; i < 160; i++) y.mornings(60);
        same("day: 9999 at most", y.count(3), 9999);
        MilkDays z = Check.suburb("step at 0 credit 0 fresh 9;step at 5 credit 0 fresh 9;crates 0;birds 100");
        z.mornings(1);
        z.crates(9);
        z.note(0, 1);
        same("not paid: two left", z.mornings(1), 2);
        state(z, "old: 9 at most where one does not pay", 0, 0, 0, 8, 1, 0);
        z.lend(1, 0);
        z.pay(0, 2);
        z.mornings(1);
        state(z, "old: 9 at most, pecked", 0, 0, 0, 8, 1, 0);
        MilkDays u = Check.suburb("step at 0 credit 9 fresh 8 note 1;step at 5 credit 0 fresh 9;crates 0");
        u.mornings(1);
        u.lend(1, 0);
        u.lend(1, 0);
        u.crates(9);
        u.mornings(1);
        state(u, "old: 9 at most, when all is old", 0, 5, 0, 9, 1, 0);
        MilkDays e = Check.suburb("step at 5 credit 0 fresh 9;step at 0 credit 0");
        for (int i = 0; i < 105; i++) {
            e.note(1, e.count(3) % 7);
            e.mornings(1);
            e.lend(1, 0);
            same("empty " + i, e.step(0, 5), Math.min(99, i + 1));
        }
    }

    private static void p11draws() {
        // The draws from SEED 1, modulo 100: 38, 58, 13, 15, 51, 27, 10, 19, 12, 86.
        String one = "step at 0 credit 10 fresh 3";
        MilkDays x = Check.law(Check.suburb(one + ";birds 39"), "break 100 if old > 0");
        x.mornings(1);
        state(x, "38 is below 39: pecked, then broken", 0, 8, 0, 2, 1, 0);
        MilkDays y = Check.law(Check.suburb(one + ";birds 38"), "break 100 if old > 0");
        y.mornings(1);
        state(y, "38 is not below 38", 0, 8, 0, 3, 1, 0);
        same("two draws", y.seed(1), seedBehind(2));
        MilkDays z = Check.suburb(one + ";frost 59");
        z.mornings(1);
        state(z, "58 is below 59", 0, 8, 0, 2, 1, 0);
        MilkDays u = Check.suburb(one + ";frost 58");
        u.mornings(1);
        state(u, "58 is not below 58", 0, 8, 0, 3, 1, 0);
        MilkDays v = Check.suburb("step at 5 credit 0;step at 5 credit 0 fresh 1;birds 39;frost 100");
        v.mornings(1);
        state(v, "the last one pecked: no second draw", 1, 0, 0, 0, 1, 0);
        same("one draw", v.seed(1), seedBehind(1));
        MilkDays w = Check.law(Check.suburb("step at 5 credit 0 fresh 9"), "sour 3 if old < 1;sour 50 if old > 0");
        w.mornings(1);
        state(w, "only what is old sours, then all is old", 0, 0, 0, 8, 1, 0);
        w.mornings(1);
        state(w, "all sours", 0, 0, 0, 0, 2, 0);
        MilkDays s = Check.law(Check.suburb("step at 5 credit 0 fresh 9"), "sour 2");
        s.mornings(2);
        state(s, "7 less 2", 0, 0, 0, 5, 2, 0);
    }

    private static void p12to17() {
        MilkDays x = tree();
        same("pay", x.pay(0, 999), 1009);
        for (int i = 0; i < 8; i++) x.pay(0, 999);
        same("pay: 9999 at most", x.pay(0, 999), 9999);
        check.fails("pay: step", NO_SUCH, () -> x.pay(4, 0));
        check.fails("pay: 0", NO_NUMBER, () -> x.pay(0, 0));
        check.fails("pay: 1000", NO_NUMBER, () -> x.pay(0, 1000));
        same("note: was", x.note(2, 6), 3);
        same("note: none", x.note(2, NONE), 6);
        same("note: was none", x.note(2, 0), NONE);
        same("note: is", x.step(2, 7), 0);
        check.fails("note: day", NO_SUCH, () -> x.note(2, 7));
        check.fails("note: day below", NO_SUCH, () -> x.note(2, -2));
        check.fails("note: step", NO_SUCH, () -> x.note(4, 0));
        same("kind: was", x.kind(1, 3), 1);
        same("kind: is", x.kind(1, 0), 3);
        check.fails("kind: kind", NO_SUCH, () -> x.kind(0, 4));
        check.fails("kind: below", NO_SUCH, () -> x.kind(0, -1));
        check.fails("kind: step", NO_SUCH, () -> x.kind(-1, 0));
        same("change: then", x.change(0, 3), 3);
        same("change: the other", x.round(3), 0);
        check.fails("change: one", NO_NUMBER, () -> x.change(1, 1));
        check.fails("change: place", NO_SUCH, () -> x.change(4, 4));
        check.fails("change: place below", NO_SUCH, () -> x.change(-1, 0));
        check.fails("change: other", NO_SUCH, () -> x.change(0, -1));
        same("charge: was", x.charge(200), 20);
        same("charge: is", x.charge(0), 200);
        check.fails("charge: 201", NO_NUMBER, () -> x.charge(201));
        check.fails("charge: below", NO_NUMBER, () -> x.charge(-1));
        same("crates: were", x.crates(99), 4);
        same("crates: are", x.crates(0), 99);
        check.fails("crates: 100", NO_NUMBER, () -> x.crates(100));
        check.fails("crates: below", NO_NUMBER, () -> x.crates(-1));
        same("12 acts are remembered", x.count(13), 12);
    }

    private static void p18() {
        MilkDays x = Check.suburb("step at 5 credit 0 fresh 5;step at 5 credit 0 fresh 9;step at 5 credit 0");
        same("lend: fresh", x.lend(0, 2), 1);
        same("lend: less", x.step(0, 3), 4);
        same("lend: more", x.step(2, 3), 1);
        check.fails("lend: the other has 9", CANNOT, () -> x.lend(0, 1));
        check.fails("lend: one", NO_NUMBER, () -> x.lend(2, 2));
        check.fails("lend: step", NO_SUCH, () -> x.lend(3, 3));
        check.fails("lend: step alone", NO_SUCH, () -> x.lend(3, 0));
        check.fails("lend: other", NO_SUCH, () -> x.lend(0, -1));
        same("lend: the only one", x.lend(2, 0), 1);
        check.fails("lend: none", CANNOT, () -> x.lend(2, 0));
        same("lend: acts", x.count(13), 2);
        x.mornings(1);
        same("lend: old now", x.step(1, 4), 8);
        same("lend: an old one", x.lend(0, 1), 0);
        check.fails("lend: the other has 9 old ones", CANNOT, () -> x.lend(0, 1));
        same("lend: 3 old ones", x.step(0, 4), 3);
        Check.put(x, "step at 5 credit 0 fresh 9").suburb();
        same("lend: fresh to one that has old", x.lend(3, 1), 1);
        same("lend: both", x.step(1, 3) * 10 + x.step(1, 4), 19);
        same("lend: fresh to one with fewer", x.lend(3, 0), 1);
        check.fails("lend: old goes first, though fresh could", CANNOT, () -> x.lend(0, 1));
        same("lend: old goes first", x.lend(1, 2), 0);
    }

    private static void p19to22() {
        MilkDays x = tree();
        same("leaves", x.leaves(), 7);
        same("passed", x.passed(), 8);
        same("home", x.home(), 0);
        same("way", x.way(), 24);
        x.crates(0);
        same("leaves: bottles or not", x.leaves(), 7);
        x.charge(3);
        same("leaves: none", x.leaves(), 0);
        same("home: not gone", x.home(), 3);
        x.charge(4);
        same("leaves: 4 does", x.leaves(), 9);
        same("home: 4", x.home(), 0);
        x.charge(11);
        same("home: 11", x.home(), 1);
        same("home: leaves", x.leaves(), 11);
        Check.put(x, "step at 9 credit 0;charge 200").suburb();
        same("way: none", x.way(), NONE);
        same("passed: not reached", x.passed(), 16);
    }

    private static void p23() {
        MilkDays x = tree();
        same("shortest", x.shortest(NONE), 20);
        int[] due = {0, 1, 3, 2, NONE};
        for (int k = 0; k < 5; k++) same("shortest " + k, x.shortest(k), due[k]);
        same("shortest: below", x.shortest(-2), NONE);
        same("shortest: far off", x.shortest(Integer.MAX_VALUE), NONE);
        x.change(0, 2);
        x.charge(0);
        same("shortest: not by the round or the charge", x.shortest(NONE), 20);
        MilkDays y = Check.suburb("road 0 1 long 1;road 1 2 long 1;road 2 3 long 1;road 3 0 long 1;"
            + "step at 3 credit 0;step at 1 credit 0;step at 2 credit 0");
        same("shortest: a ring", y.shortest(NONE), 4);
        same("shortest: the first order", y.shortest(0) * 100 + y.shortest(1) * 10 + y.shortest(2), 21);
        Check.put(y, "road 0 2 long 9;road 3 0 long 5;step at 7 credit 0").suburb();
        same("shortest: none", y.shortest(NONE), NONE);
        same("shortest: none, 0", y.shortest(0), NONE);
        Check.put(y, "road 7 3 long 1").suburb();
        same("shortest: a new road", y.shortest(NONE), 8);
    }

    private static void p24() {
        MilkDays x = tree();
        same("most", x.most(), 15);
        x.charge(19);
        same("most: 19", x.most(), 11);
        x.charge(9);
        same("most: 9", x.most(), 9);
        x.charge(3);
        same("most: 3", x.most(), 0);
        MilkDays y = Check.suburb("road 0 1 long 3;road 0 2 long 3;step at 2 credit 0;step at 1 credit 0;step at 9 credit 0;charge 6");
        same("most: the least of several", y.most(), 1);
        y.charge(200);
        same("most: without those not reached", y.most(), 3);
    }

    private static void p25and26() {
        MilkDays x = tree();
        same("least", x.least(), 24);
        x.change(2, 3);
        same("least: by the round", x.least(), 20);
        same("dairy", x.dairy(), 1);
        Check.put(x, "step at 7 credit 0").suburb();
        same("least: none", x.least(), NONE);
        same("dairy: none", x.dairy(), NONE);
        MilkDays y = Check.suburb("road 0 1 long 9;road 1 2 long 9;road 2 3 long 9;step at 3 credit 0;step at 0 credit 0;step at 3 credit 0;step at 0 credit 0");
        same("least: 108", y.least(), 108);
        same("dairy: of several the least", y.dairy(), 0);
        Check.put(y, "step at 3 credit 0;step at 0 credit 0;step at 3 credit 0;step at 0 credit 0").suburb();
        same("way: more than 200", y.way(), 216);
        same("least: more than 200", y.least(), NONE);
        MilkDays u = Check.suburb("road 0 1 long 9;road 1 2 long 9;road 0 3 long 7;step at 2 credit 0;step at 0 credit 0;step at 2 credit 0;"
            + "step at 0 credit 0;step at 2 credit 0;step at 0 credit 0;step at 2 credit 0;step at 3 credit 0");
        same("least: 158", u.least(), 158);
        Check.put(u, "road 1 2 long 6;road 0 3 long 6;road 0 1 long 6").suburb();
        same("least: 108, too", u.least(), 108);
        Check.put(u, "road 1 2 long 9;road 0 1 long 9;road 0 3 long 1;road 2 3 long 9").suburb();
        same("least: a way round", u.least(), u.way());
        MilkDays v = Check.suburb("road 0 1 long 8;road 1 2 long 8;road 2 3 long 9;step at 3 credit 0;step at 0 credit 0;step at 3 credit 0;"
            + "step at 0 credit 0;step at 3 credit 0;step at 0 credit 0;step at 3 credit 0");
        same("least: all of 200", v.least(), 200);
        Check.put(v, "road 2 3 long 8;road 0 4 long 4;step at 4 credit 0").suburb();
        same("least: all of 200, by another", v.least(), 200);
        Check.put(v, "road 0 4 long 5").suburb();
        same("least: 202", v.least(), NONE);
        same("dairy: one step", Check.suburb("step at 0 credit 0").dairy(), 0);
        MilkDays z = Check.suburb("step at 5 credit 0;step at 5 credit 0");
        same("dairy: away from all roads", z.dairy(), 5);
        MilkDays w = Check.suburb("road 0 1 long 9;road 1 2 long 9;step at 2 credit 0;step at 0 credit 0;step at 2 credit 0");
        same("dairy: the most steps", w.dairy(), 2);
    }

    private static void p27and28() {
        MilkDays x = tree();
        same("bridges", x.bridges(), 3);
        same("cut 0", x.cut(0), 15);
        same("cut 1", x.cut(1), 11);
        same("cut 2", x.cut(2), 2);
        same("cut 3", x.cut(3), 0);
        same("cut 4", x.cut(4), 4);
        check.fails("cut 12", NO_SUCH, () -> x.cut(12));
        check.fails("cut -1", NO_SUCH, () -> x.cut(-1));
        Check.put(x, "road 4 2 long 9;step at 8 credit 0;road 8 9 long 1").suburb();
        same("bridges: a ring, and a road that cannot be reached", x.bridges(), 0);
        same("cut: one way round", x.cut(1), 25);
        same("cut: not reached now", x.cut(3), 16);
        Check.put(x, "road 2 9 long 1").suburb();
        same("bridges: a chain", x.bridges(), 2);
        same("bridges: from the higher to the lower", Check.suburb("road 0 5 long 1;road 5 2 long 1;step at 2 credit 0").bridges(), 2);
    }

    private static void p29to32() {
        MilkDays x = tree();
        same("dries", x.dries(false), 1);
        same("dries: who", x.dries(true), 3);
        x.charge(200);
        x.crates(99);
        same("dries: never", x.dries(false), NONE);
        same("dries: nobody", x.dries(true), NONE);
        same("owes: now", x.owes(1), 0);
        same("owes: 10 by 2", x.owes(0), 5);
        same("owes: with a note", x.owes(2), 22);
        check.fails("owes: step", NO_SUCH, () -> x.owes(4));
        same("pays", x.pays(0, 3), 8);
        same("pays: 0", x.pays(0, 0), 2);
        same("pays: two on a day", x.pays(2, 1), 6);
        check.fails("pays: step", NO_SUCH, () -> x.pays(4, 61));
        check.fails("pays: 61", NO_NUMBER, () -> x.pays(0, 61));
        check.fails("pays: below", NO_NUMBER, () -> x.pays(0, -1));
        same("holds: 0", x.holds(0), 2);
        same("holds: 1", x.holds(1), 3);
        check.fails("holds: 61", NO_NUMBER, () -> x.holds(61));
        check.fails("holds: below", NO_NUMBER, () -> x.holds(-1));
        same("nothing stays", x.count(3), 3);
        MilkDays y = Check.suburb("step at 0 credit 5;step at 5 credit 0 fresh 6;step at 5 credit 0 fresh 6;price 20");
        same("dries: when bottles are gone", y.dries(false), 7);
        same("dries: the least", y.dries(true), 1);
        same("pays: 48 times 20 and 20", y.pays(0, 48), 980);
        same("pays: more than 999", y.pays(0, 49), NONE);
        same("owes: not reached, below price", y.owes(1), 0);
        MilkDays z = Check.suburb("step at 0 credit 0;price 0");
        same("owes: price 0", z.owes(0), NONE);
        same("pays: price 0", z.pays(0, 60), 0);
        MilkDays d = Check.suburb("step at 5 credit 0 fresh 9;step at 0 credit 0;price 3");
        same("pays: first of all", d.pays(1, 9), 30);
        same("pays: not reached", d.pays(0, 9), 3);
        same("dries: the first step", d.dries(true) * 100 + d.dries(false), 10);
        // Each week once the first takes both bottles: the ninth time the second has none of its eight left.
        MilkDays h = Check.suburb("step at 0 credit 0 note 3;step at 0 credit 0 fresh 8;crates 2");
        same("dries: 60", h.dries(false) * 10 + h.dries(true), 601);
        h.note(0, 4);
        same("dries: 61 is none", h.dries(false), NONE);
        MilkDays w = Check.suburb("step at 0 credit 120;price 2");
        same("owes: 60 days", w.owes(0), 60);
        w.pay(0, 1);
        same("owes: 121", w.owes(0), 60);
        w.pay(0, 1);
        same("owes: 122", w.owes(0), NONE);
    }

    private static MilkDays told(MilkDays x, int... bytes) {
        StringBuilder text = new StringBuilder();
        for (int b : bytes) text.append((char) b);
        return Check.put(x, text.toString());
    }

    private static void p33and34() {
        // STEP 0 is left something from CHARGE 2 on, STEP 1 from 6 on, STEP 2 from 14 on, STEP 3 never.
        MilkDays x = line(";step at 1 credit 0;step at 2 credit 0;step at 3 credit 0;step at 9 credit 0");
        same("seen: none told", x.seen(false), 201);
        same("seen: low of all", x.seen(true), 0);
        same("seen: one", told(x, 1, 1).seen(false), 195);
        same("seen: low", told(x, 1, 1).seen(true), 6);
        same("seen: two", told(x, 1, 1, 2, 0).seen(false), 8);
        same("seen uses the tape up", x.seen(false), 201);
        same("seen: two against one another", told(x, 1, 1, 1, 0).seen(false), 0);
        same("seen: low of none", told(x, 3, 1).seen(true), NONE);
        same("ask", x.ask(), 2);
        same("ask: what parts the rest", told(x, 2, 0).ask(), 1);
        same("ask: nothing parts: the least", told(x, 1, 0, 0, 1).ask(), 0);
        same("ask: none fits", told(x, 3, 1).ask(), NONE);
        same("ask uses the tape up", told(x, 2, 0).ask() + x.ask(), 3);
        MilkDays y = Check.suburb("step at 1 credit 0;step at 1 credit 0;road 0 1 long 1;crates 1");
        same("seen: something, not only come to", told(y, 1, 0).seen(false), 201);
        same("ask: of several the least", told(y).ask(), 0);
        MilkDays z = line(";step at 1 credit 0;step at 1 credit 0");
        same("ask: two alike, the least", z.ask(), 0);
        int[] much = new int[40];
        same("seen: 40 bytes", told(x, much).seen(false), 2);
        int[] more = new int[42];
        told(x, more);
        check.fails("seen: 42 bytes", NO_NUMBER, () -> x.seen(false));
        same("seen: wrong, the tape is used up", x.seen(false), 201);
        told(x, 0);
        check.fails("seen: odd", NO_NUMBER, () -> x.seen(true));
        told(x, 4, 1);
        check.fails("seen: no such step", NO_NUMBER, () -> x.seen(true));
        told(x, 1, 2);
        check.fails("seen: neither 1 nor 0", NO_NUMBER, () -> x.seen(true));
        told(x, 255, 0);
        check.fails("ask: no such step", NO_NUMBER, x::ask);
        same("ask: wrong, the tape is used up", x.ask(), 2);
        told(x, 0, 1, 1);
        check.fails("ask: odd", NO_NUMBER, x::ask);
        told(x, more);
        check.fails("ask: 42 bytes", NO_NUMBER, x::ask);
        told(x, 0, 3);
        check.fails("ask: neither", NO_NUMBER, x::ask);
        MilkDays u = Check.suburb("step at 1 credit 0;road 0 1 long 1");
        same("seen: charges 0 and 1", told(u, 0, 0).seen(false), 2);
        same("ask: two fit, nothing parts them", told(u, 0, 0).ask(), 0);
        MilkDays v = Check.suburb("road 0 1 long 1;step at 9 credit 0;step at 1 credit 0;crates 0");
        same("seen: come to with none", told(v, 0, 0).seen(false), 201);
        same("seen: charge itself does not count", u.charge(0) + told(u, 0, 1).seen(false), 259);
        same("ask: fewer than two", told(Check.suburb("step at 0 credit 0"), 0, 0).ask(), NONE);
    }

    private static void p35and36() {
        MilkDays x = tree();
        same("neighbours", x.neighbours(false), 2);
        same("neighbours: far", x.neighbours(true), 10);
        int[] due = {1, 0, 3, 2};
        for (int s = 0; s < 4; s++) same("neighbour " + s, x.neighbour(s), due[s]);
        check.fails("neighbour: step", NO_SUCH, () -> x.neighbour(4));
        MilkDays y = Check.suburb("step at 1 credit 0;step at 3 credit 0;step at 1 credit 0;step at 2 credit 0;step at 4 credit 0;"
            + "road 1 2 long 5;road 3 4 long 9");
        same("neighbours: two pairs of five", y.neighbours(false), 2);
        same("neighbours: apart", y.neighbours(true), 9);
        int[] mates = {2, 4, 0, NONE, 1};
        for (int s = 0; s < 5; s++) same("neighbours apart " + s, y.neighbour(s), mates[s]);
        MilkDays z = Check.suburb("step at 1 credit 0;step at 1 credit 0;step at 1 credit 0;step at 3 credit 0");
        same("neighbours: the first way", z.neighbour(0) * 10 + z.neighbour(1), 10);
        same("neighbour: none behind all others", z.neighbour(2), NONE);
        same("neighbours: not reached", z.neighbour(3), NONE);
        same("neighbours: no far", z.neighbours(true), 0);
        same("neighbours: one", z.neighbours(false), 1);
        MilkDays w = Check.suburb("step at 9 credit 0;step at 1 credit 0;step at 2 credit 0;road 1 2 long 3");
        same("neighbours: the first one alone", w.neighbours(false) * 10 + w.neighbour(2), 11);
        same("neighbours: the first one has none", w.neighbour(0), NONE);
    }

    private static void p37() {
        MilkDays x = tree();
        int[] due = {2, 1, 1, 1};
        for (int s = 0; s < 4; s++) same("gutter: 5, " + s, x.gutter(s, 5), due[s]);
        same("gutter: 0", x.gutter(0, 0), 0);
        same("gutter: 99", x.gutter(3, 99), 24);
        same("gutter: 99, the first", x.gutter(0, 99), 25);
        x.charge(0);
        x.mornings(4);
        // DRY is 4, 2, 4, 4 now.
        int[] dry = {4, 2, 4, 4};
        for (int s = 0; s < 4; s++) same("gutter: dry " + s, x.step(s, 6), dry[s]);
        int[] had = {2, 0, 1, 1};
        for (int s = 0; s < 4; s++) same("gutter: dry goes first " + s, x.gutter(s, 4), had[s]);
        check.fails("gutter: 100", NO_NUMBER, () -> x.gutter(0, 100));
        check.fails("gutter: below", NO_NUMBER, () -> x.gutter(0, -1));
        check.fails("gutter: step", NO_SUCH, () -> x.gutter(4, 100));
    }

    private static void p38() {
        MilkDays x = tree();
        same("rests", x.rests(0, 1), 5);
        same("rests: the other way round", x.rests(1, 0), 3);
        check.fails("rests: one", NO_NUMBER, () -> x.rests(1, 1));
        check.fails("rests: step", NO_SUCH, () -> x.rests(4, 4));
        check.fails("rests: step alone", NO_SUCH, () -> x.rests(4, 0));
        check.fails("rests: other", NO_SUCH, () -> x.rests(0, 4));
        MilkDays y = Check.suburb("step at 5 credit 0 fresh 7;step at 5 credit 0 fresh 3;step at 5 credit 0");
        y.mornings(1);
        // OLD 6, 2, 0: to keep is always more with OLD.
        same("rests: both keep", y.rests(0, 1), 8);
        // The third drinks 0, or -6 if the first keeps; keeps 0, or 3.
        same("rests: keeps", y.rests(0, 2), 8);
        Check.put(y, "step at 5 credit 0 fresh 2;step at 5 credit 0 fresh 1").suburb();
        // Drinks 4 or keeps 0 and 3: drinks; the fifth drinks 2, keeps 0 and 3.
        same("rests: both drink", y.rests(3, 4), 1);
        MilkDays k = Check.suburb("step at 5 credit 0 fresh 5;step at 5 credit 0 fresh 2;step at 5 credit 0 fresh 9");
        k.mornings(1);
        k.mornings(1);
        Check.put(k, "step at 5 credit 0 fresh 9").suburb();
        k.lend(3, 0);
        k.lend(3, 0);
        k.lend(3, 1);
        // STEP 0: OLD 3, FRESH 2: drinks 7, keeps 6 or 9. STEP 1: FRESH 1: drinks 2, keeps 0 or 3.
        same("rests: old once and twice", k.rests(0, 1), 8 + 1);
        k.lend(3, 0);
        // STEP 0 drinks 9, keeps 6 or 9; STEP 2, OLD 7: drinks 7, keeps 14: 9 less 7 is less than 9.
        same("rests: old of the other", k.rests(0, 2), 8);
        // STEP 1 keeps 4 and 7, drinks 2; the fourth drinks 4 less 2, or keeps 3.
        same("rests: less by what the other has", y.rests(3, 1), 8);
    }

    private static void p39and40() {
        MilkDays x = tree();
        same("cross", x.cross(), 1);
        same("swap", x.swap(), 2);
        x.change(2, 3);
        same("cross: none", x.cross(), 0);
        same("swap: none", x.swap(), NONE);
        Check.put(x, "step at 9 credit 0").suburb();
        same("cross: no way", x.cross(), 0);
        same("swap: no way", x.swap(), NONE);
        MilkDays y = Check.suburb("road 0 1 long 1;road 0 2 long 1;step at 1 credit 0;step at 2 credit 0;step at 1 credit 0;step at 2 credit 0");
        same("way: to and fro", y.way(), 8);
        same("cross: three", y.cross(), 3);
        same("swap: of several the least", y.swap(), 3);
        MilkDays z = Check.suburb("road 0 1 long 1;road 1 2 long 1;road 2 3 long 1;step at 2 credit 0;step at 1 credit 0;step at 3 credit 0;step at 2 credit 0");
        // 2, 1, 3, 2 is 8; by 1, 2, 3, 2 it is 6, by no other change less than that.
        same("swap: the first two", z.swap() * 100 + z.way(), 108);
    }

    private static void p41to45() {
        MilkDays x = tree();
        same("foil 0", x.foil(0), 5);
        same("foil 2", x.foil(2), 8);
        same("foil 3", x.foil(3), 0);
        check.fails("foil 4", NO_SUCH, () -> x.foil(4));
        check.fails("foil -1", NO_SUCH, () -> x.foil(-1));
        same("dogs", x.dogs(), 4);
        same("noted", x.noted(3), 4);
        same("noted: none", x.noted(0), 0);
        check.fails("noted 7", NO_SUCH, () -> x.noted(7));
        check.fails("noted none", NO_SUCH, () -> x.noted(NONE));
        same("thirsty: none", x.thirsty(), NONE);
        same("rich", x.rich(), 2);
        x.charge(0);
        x.mornings(1);
        same("thirsty: the least", x.thirsty(), 0);
        x.charge(4);
        x.mornings(2);
        same("thirsty: the most", x.thirsty(), 2);
        same("rich: 6 and 50", x.step(0, 2) * 100 + x.step(2, 2), 650);
        x.pay(0, 43);
        same("rich: one less", x.rich(), 2);
        x.pay(0, 1);
        same("rich: the least of like ones", x.rich(), 0);
        MilkDays y = Check.suburb("step at 5 credit 7;step at 5 credit 7");
        same("rich: of several", y.rich(), 0);
        same("rich: without credit", Check.suburb("step at 1 credit 0").rich(), 0);
        same("dogs: none", y.dogs(), 0);
    }

    private static void p46and47() {
        MilkDays x = Check.law(Check.suburb("step at 1 credit 0;step at 1 credit 0 dog;step at 1 credit 0 kind 1;step at 2 credit 0;frost 33"), "break 90 if dog");
        int[] due = {10000, 6700, 4489, 3007, 2014};
        for (int n = 0; n < 5; n++) same("odds " + n, x.odds(0, n), due[n]);
        same("odds: more than 100", x.odds(1, 1), 0);
        same("odds: more than 100, 0 days", x.odds(1, 0), 10000);
        check.fails("odds: 5", NO_NUMBER, () -> x.odds(0, 5));
        check.fails("odds: below", NO_NUMBER, () -> x.odds(0, -1));
        check.fails("odds: step", NO_SUCH, () -> x.odds(4, 5));
        same("twins", x.twins(), 1);
        x.kind(2, 0);
        same("twins: three pairs", x.twins(), 3);
        same("twins: none", tree().twins(), 0);
    }

    private static void p48to50() {
        MilkDays x = tree();
        same("ahead: credit", x.ahead(0, 1, 2), 8);
        same("ahead: old", x.ahead(1, 1, 1), 2);
        same("ahead: fresh now", x.ahead(1, 0, 0), 2);
        same("ahead: fresh", x.ahead(1, 1, 0), 0);
        same("ahead: dry", x.ahead(3, 60, 3), 60);
        check.fails("ahead: what", NO_WHAT, () -> x.ahead(0, 1, 4));
        check.fails("ahead: what below", NO_WHAT, () -> x.ahead(0, 1, -1));
        check.fails("ahead: 61", NO_NUMBER, () -> x.ahead(0, 61, 4));
        check.fails("ahead: below", NO_NUMBER, () -> x.ahead(0, -1, 0));
        check.fails("ahead: step", NO_SUCH, () -> x.ahead(4, 61, 4));
        MilkDays y = Check.suburb("step at 5 credit 0 fresh 9;birds 100;frost 100");
        same("ahead: no birds, no frost", y.ahead(0, 1, 1), 8);
        same("ahead: no draws", y.seed(1), 1);
        // Pecked one, broken one, the old one drunk.
        same("trial: birds and frost", y.trial(1, false), 7);
        same("trial: 0", y.trial(0, false), 9);
        same("trial: dry", y.trial(8, true), 0);
        same("trial: dry then", y.trial(9, true), 1);
        MilkDays p = Check.suburb("step at 0 credit 0 note 0;step at 5 credit 0;step at 5 credit 0");
        same("trial: the float comes", p.trial(1, false), 1);
        same("trial: two are dry", p.trial(1, true), 6);
        same("trial: nothing stays", y.seed(1) * 100 + y.count(3) * 10 + y.count(10), 109);
        check.fails("trial: 61", NO_NUMBER, () -> y.trial(61, true));
        check.fails("trial: below", NO_NUMBER, () -> y.trial(-1, false));
        // A second draw below 59 breaks one; from SEED 1 it is 58.
        MilkDays z = Check.suburb("step at 5 credit 0 fresh 9;frost 59");
        same("trial: from its seed", z.trial(1, false), 7);
        z.seed(2);
        same("trial: from another one", z.trial(1, false), draw(2, 2) < 59 ? 7 : 8);
        int least = 9;
        int most = 0;
        for (int seed = 1; seed <= 6; seed++) {
            int bottles = draw(seed, 2) < 59 ? 7 : 8;
            least = Math.min(least, bottles);
            most = Math.max(most, bottles);
        }
        same("span: least", z.span(1, false), least);
        same("span: most", z.span(1, true), most);
        same("span: it is one", least < most, true);
        same("span: 0", z.span(0, true) * 10 + z.span(0, false), 99);
        same("span: nothing stays", z.seed(1), 2);
        check.fails("span: 61", NO_NUMBER, () -> z.span(61, true));
        check.fails("span: below", NO_NUMBER, () -> z.span(-1, true));
        // The third and the fourth draw from SEED 1 to 6: 13 15, 39 14, 65 12, 91 11, 16 77, 42 76.
        MilkDays six = Check.law(Check.suburb("step at 5 credit 0 fresh 9;step at 5 credit 0 fresh 9"),
            "bird 40 if step>0;break 76 if step>0;break 100 if step>0 and old>0");
        same("span: SEED 6 alone breaks none", six.span(1, false) * 100 + six.span(1, true), 1516);
        for (int birds = 1; birds < 100; birds++) {
            MilkDays f = Check.law(Check.suburb("step at 5 credit 0 fresh 9;birds " + birds), "break 100 if old>0");
            int low = 8;
            int high = 7;
            for (int seed = 1; seed <= 6; seed++) {
                low = Math.min(low, draw(seed, 1) < birds ? 7 : 8);
                high = Math.max(high, draw(seed, 1) < birds ? 7 : 8);
            }
            same("span: birds " + birds, f.span(1, false) * 10 + f.span(1, true), low * 10 + high);
        }
        for (int frost = 1; frost < 100; frost++) {
            MilkDays f = Check.suburb("step at 5 credit 0 fresh 9;frost " + frost);
            int low = 8;
            int high = 7;
            for (int seed = 1; seed <= 6; seed++) {
                low = Math.min(low, draw(seed, 2) < frost ? 7 : 8);
                high = Math.max(high, draw(seed, 2) < frost ? 7 : 8);
            }
            same("span: frost " + frost, f.span(1, false) * 10 + f.span(1, true), low * 10 + high);
        }
    }

    private static int draw(int seed, int which) {
        for (int i = 0; i < which; i++) seed = (int) (seed * 1103515245L + 12345L);
        return (int) ((seed & 0xffffffffL) / 65536 % 32768 % 100);
    }

    private static void p51and52() {
        MilkDays x = tree();
        same("led: none", x.led(0, false), 0);
        same("led: no day", x.led(0, true), NONE);
        same("log: without", x.log(0, 0), NONE);
        x.mornings(2);
        // DAY 3: STEPS 0, 1, 2 (two bottles); DAY 4: one each.
        same("log: rows", x.count(12), 6);
        int[][] due = {{4, 2, 1, 5}, {4, 1, 1, 15}, {4, 0, 1, 18}, {3, 2, 2, 5}, {3, 1, 1, 15}, {3, 0, 1, 18}};
        for (int ago = 0; ago < 6; ago++) for (int w = 0; w < 4; w++) same("log " + ago + " " + w, x.log(ago, w), due[ago][w]);
        same("log: ago of none", x.log(6, 0), NONE);
        same("log: ago below", x.log(-1, 0), NONE);
        same("log: ago far off", x.log(Integer.MAX_VALUE, 0), NONE);
        check.fails("log: what", NO_WHAT, () -> x.log(0, 4));
        check.fails("log: what below", NO_WHAT, () -> x.log(99, -1));
        same("led", x.led(1, false), 2);
        same("led: day", x.led(1, true), 4);
        same("led: passed over", x.led(3, true), NONE);
        check.fails("led: step", NO_SUCH, () -> x.led(4, true));
        x.crates(0);
        x.mornings(1);
        same("log: nothing left, no row", x.count(12), 6);
        x.crates(1);
        x.mornings(57);
        same("log: 60 at most", x.count(12), 60);
        same("log: the oldest", x.log(59, 0) * 10 + x.log(59, 1), 40);
        same("log: the latest", x.log(0, 0) * 10 + x.log(0, 1), 620);
        same("led: of the latest 60", x.led(0, false), 58);
        same("log: none behind 60", x.log(60, 0), NONE);
        x.crates(2);
        x.mornings(40);
        same("log: another latest", x.log(0, 1) * 1000 + x.log(0, 0), 1102);
        x.undo();
        same("log: undone", x.log(0, 1) * 1000 + x.log(0, 0), 62);
        same("log: undone, the oldest", x.log(59, 0) * 10 + x.log(59, 1), 40);
        MilkDays y = Check.suburb("step at 0 credit 0;day 6");
        y.mornings(1);
        same("led: the only row", y.led(0, true), 6);
    }

    private static void p53() {
        MilkDays x = new MilkDays();
        same("seed: at first", x.seed(-7), 1);
        same("seed: was", x.seed(Integer.MIN_VALUE), -7);
        same("seed: is no act", x.count(13), 0);
        same("seed", x.seed(0), Integer.MIN_VALUE);
    }

    private static void p54() {
        MilkDays x = tree();
        same("undo: none", x.undo(), false);
        x.seed(9);
        x.mornings(5);
        x.pay(0, 5);
        x.note(0, 1);
        x.kind(0, 1);
        x.change(0, 1);
        x.charge(20);
        x.crates(9);
        int old = x.step(1, 4);
        x.lend(1, 3);
        same("undo: acts", x.count(13), 8);
        x.seed(4);
        same("undo: lent", x.undo() && x.step(1, 4) == old, true);
        same("undo: seed too", x.seed(6) != 4, true);
        same("undo: crates", x.undo() && x.count(5) == 4, true);
        same("undo: charge told, nothing changed", x.undo() && x.count(4) == 20, true);
        same("undo: change", x.undo() && x.round(0) == 0, true);
        same("undo: kind", x.undo() && x.step(0, 1) == 0, true);
        same("undo: note", x.undo() && x.step(0, 7) == NONE, true);
        same("undo: pay", x.undo() && x.step(0, 2) == 0, true);
        same("undo: mornings of one call are one", x.undo() && x.count(3) == 3, true);
        same("undo: log", x.count(12), 0);
        same("undo: bottles", x.step(1, 3) * 10 + x.step(1, 4), 20);
        same("undo: seed ahead of it", x.seed(1), 9);
        same("undo: none left", x.undo(), false);
        for (int i = 1; i <= 14; i++) x.charge(i);
        same("undo: 12", x.count(13), 12);
        for (int i = 13; i >= 2; i--) same("undo " + i, x.undo() && x.count(4) == i, true);
        same("undo: the 13th", x.undo(), false);
        same("undo: charge of the second", x.count(4), 2);
        x.charge(7);
        check.fails("undo: a call that throws is no act", NO_NUMBER, () -> x.charge(999));
        same("undo: one act", x.count(13), 1);
        Check.put(x, "day x");
        check.fails("undo: a wrong text", NO_NUMBER, x::suburb);
        same("undo: remembered with a wrong text", x.count(13), 1);
        x.suburb();
        same("undo: a text", x.undo(), false);
        x.charge(8);
        x.law();
        same("undo: a law", x.undo(), false);
        same("undo: charge", x.count(4), 8);
    }

    private static void p55and56() {
        MilkDays x = Check.law(tree(), "sour 1");
        same("back: none kept", x.back(), false);
        x.charge(30);
        same("back: nothing happens", x.count(13), 1);
        x.seed(77);
        x.image();
        same("image: acts stay", x.count(13), 1);
        x.mornings(3);
        Check.put(x, "step at 9 credit 1;road 0 1 long 9;price 9;birds 1;frost 2").suburb();
        Check.law(x, "bird 5;bird 6");
        same("image: another world", x.shortest(NONE), NONE);
        x.pay(0, 3);
        Check.put(x, "day x");
        same("back", x.back(), true);
        same("back: the tape stays", x.end(5), true);
        same("back: acts", x.count(13), 0);
        int[] due = {4, 1, 1, 3, 30, 4, 2, 0, 0, 4, 2, 0, 0, 0};
        for (int i = 0; i < due.length; i++) same("back: count " + i, x.count(i), due[i]);
        same("back: seed", x.seed(78), 77);
        same("back: law", x.step(0, 11), 1);
        same("back: far", x.far(0, 1), 2);
        same("back: shortest", x.shortest(NONE), 20);
        same("back: credit", x.step(0, 2), 10);
        same("back: log", x.log(0, 0), NONE);
        x.pay(0, 1);
        same("back: once more", x.back(), true);
        same("back: once more, credit", x.step(0, 2), 10);
        x.pay(0, 1);
        x.image();
        x.undo();
        same("back: undo leaves the image", x.back(), true);
        same("back: the image kept last", x.step(0, 2), 11);
    }

    private static void p57() {
        MilkDays x = Check.law(Check.suburb(TREE + ";birds 7", "frost 8"), "sour 1;sour 1;sour 1");
        x.crates(5);
        x.mornings(1);
        // DRAWS modulo 100 are 38, 58, 13, 15, 51, 27: nothing pecked, nothing broken, and only what was OLD sours.
        int[] due = {4, 2, 3, 4, 20, 5, 2, 7, 8, 4, 0, 3, 3, 2};
        for (int i = 0; i < due.length; i++) same("count " + i, x.count(i), due[i]);
        same("count 14", x.count(14), NONE);
        same("count -1", x.count(-1), NONE);
        same("count: fresh", tree().count(10), 2);
    }

    public static void main(String[] args) {
        p1();
        p2and3();
        p4();
        p4wrong();
        p5();
        p5wrong();
        p6();
        p7();
        p8to10();
        p11float();
        p11caps();
        p11draws();
        p12to17();
        p18();
        p19to22();
        p23();
        p24();
        p25and26();
        p27and28();
        p29to32();
        p33and34();
        p35and36();
        p37();
        p38();
        p39and40();
        p41to45();
        p46and47();
        p48to50();
        p51and52();
        p53();
        p54();
        p55and56();
        p57();
        check.end("PromisesTest");
    }
}
