/**
 * Sentence by sentence, the cases at the bounds: the limits in the first paragraph of 'Terms', the TAPE,
 * THE SUBURB, THE LAW and the first wrong byte (promises 1 to 6).
 */
final class EdgesTextsTest extends Edges {
    private static final String STEP = "step at 1 credit 1";

    /** A text of THE SUBURB that is wrong at this byte. */
    private static void wrong(String text, int fault) {
        MilkDays x = put(suburb("step at 1 credit 7 note 3;road 0 1 long 2;charge 99"), text);
        refused(x, NO_NUMBER, x::suburb);
        due(text + " " + x.fault(), text + " " + fault);
    }

    /** A text of THE LAW that is wrong at this byte. */
    private static void wrongLaw(String text, int fault) {
        MilkDays x = put(law(suburb(STEP), "bird 7;sour 9 if kind < 1"), text);
        refused(x, NO_NUMBER, x::law);
        due(text + " " + x.fault(), text + " " + fault);
    }

    /** Whether a condition holds of STEP 0. */
    private static boolean holds(MilkDays x, String condition) {
        return law(x, "sour 1 if " + condition).step(0, SOURS) == 1;
    }

    // ---- Terms: the limits of what there is

    private static void atFirst() {
        MilkDays x = new MilkDays();
        // Promise 1: "A suburb without STEPS."
        due(x.count(STEPS), 0);
        fails(NO_SUCH, () -> x.step(0, 0));
        fails(NO_SUCH, () -> x.round(0));
        // Behind Terms: "Sets are bits; of none they count for nothing."
        due(x.leaves() + x.passed() + x.most() + x.cut(0) + x.foil(0) + x.dogs() + x.noted(0) + x.trial(1, true), 0);
        // Terms: "CHARGE 0 to 200 (60 at first)"
        due(x.count(CHARGE), 60);
        // Terms: "CRATES 0 to 99 (20 at first)"
        due(x.count(CRATES), 20);
        // Terms: "PRICE 0 to 20 (2 at first)"
        due(x.count(PRICE), 2);
        // Terms: "BIRDS, FROST 0 to 100 (0 at first)"
        due(x.count(BIRDS), 0);
        due(x.count(FROST), 0);
        // Terms: "DAY 0 to 9999 (0 at first)"
        due(x.count(DAY), 0);
        // Terms: "SEED 1 at first"
        due(x.seed(0), 1);
        // Terms: "of a LENGTH 1 to 9 (none at first)"
        due(x.count(ROADS), 0);
        for (int a = 0; a < 12; a++) for (int b = 0; b < 12; b++) due(x.road(a, b), NONE);
        // Promise 57: "1 texts of THE SUBURB, 2 LINES of THE LAW (NONE without one)"
        due(x.count(TEXTS), 0);
        due(x.count(LINES), NONE);
        due(x.count(ALL_FRESH) + x.count(ALL_OLD) + x.count(ROWS) + x.count(UNDOABLE), 0);
        // Promise 6: "NONE without one, and ahead of any."
        due(x.fault(), NONE);
        // Promise 3: "false, and nothing happens, if it has fewer": the TAPE of a new object has none
        due(x.end(0), true);
        due(x.end(1), false);
        // Promise 54: "whether there was one."
        due(x.undo(), false);
        // Promise 56: "false, and nothing happens, if none was kept."
        due(x.back(), false);
    }

    private static void corners() {
        // Terms: "CORNERS 0 to 11"
        MilkDays x = suburb("step at 0 credit 0;step at 11 credit 0;road 0 11 long 4");
        due(x.step(0, CORNER), 0);
        due(x.step(1, CORNER), 11);
        due(x.far(11, 0), 4);
        wrong("step at 12 credit 0", 8);
        wrong("road 12 0 long 1", 5);
        wrong("road 0 12 long 1", 7);
        fails(NO_SUCH, () -> x.far(12, 0));
        fails(NO_SUCH, () -> x.far(0, 12));
        fails(NO_SUCH, () -> x.road(12, 0));
        fails(NO_SUCH, () -> x.road(0, 12));
        fails(NO_SUCH, () -> x.cut(12));
        for (int low : new int[] {-1, LOWEST}) {
            fails(NO_SUCH, () -> x.far(low, 0));
            fails(NO_SUCH, () -> x.far(0, low));
            fails(NO_SUCH, () -> x.road(low, 0));
            fails(NO_SUCH, () -> x.road(0, low));
            fails(NO_SUCH, () -> x.cut(low));
        }
        // Terms: "with ROADS between them (each way) of a LENGTH 1 to 9 (none at first)"
        MilkDays y = suburb("road 0 1 long 1;road 2 1 long 9");
        due(y.road(0, 1) * 10 + y.road(1, 0), 11);
        due(y.road(1, 2) * 10 + y.road(2, 1), 99);
        due(y.far(0, 2) * 100 + y.far(2, 0), 1010);
        wrong("road 0 1 long 0", 14);
        wrong("road 0 1 long 10", 14);
        // Terms: "the DAIRY is at CORNER 0"
        MilkDays z = suburb("step at 0 credit 0;step at 1 credit 0;road 0 1 long 3;charge 5");
        due(z.leaves(), 1);
        due(z.home(), 5);
        due(z.step(0, OUTER) * 10 + z.step(1, OUTER), 10);
    }

    private static void steps() {
        // Terms: "STEPS (at most 8, numbered from 0 on): a CORNER,"
        MilkDays x = suburb(times(7, STEP));
        due(put(x, "step at 9 credit 0").suburb(), 2);
        due(x.count(STEPS), 8);
        due(x.step(7, CORNER), 9);
        due(x.step(0, CORNER), 1);
        fails(NO_SUCH, () -> x.step(8, 0));
        fails(NO_SUCH, () -> x.step(-1, 0));
        put(x, "day 4;step at 1 credit 1");
        fails(NO_NUMBER, x::suburb);
        due(x.fault(), 6);
        due(x.count(STEPS) * 10 + x.count(DAY), 80);
        // Terms: "a KIND 0 to 3 (0 at first), CREDIT 0 to 9999, FRESH and OLD bottles 0 to 9 (0 at first), EMPTY ones 0 to 99 (0
        // at first), DRY: for how many days there was nothing, 0 to 99 (0 at first), a NOTE: a day of the week 0 to 6, or none
        // (at first), a DOG or not (not at first)."
        for (int what : new int[] {KIND, FRESH, OLD, EMPTY, DRY, DOG}) due(x.step(7, what), 0);
        due(x.step(7, NOTE), NONE);
        MilkDays y = suburb("step at 0 credit 999 kind 3 fresh 9 note 6 dog;step at 0 credit 0 kind 0 fresh 0 note 0");
        int[] most = {0, 3, 999, 9, 0, 0, 0, 6, 1};
        for (int what = 0; what < 9; what++) due(y.step(0, what), most[what]);
        for (int what = 0; what < 9; what++) due(y.step(1, what), 0);
        wrong("step at 1 credit 1 kind 4", 24);
        wrong("step at 1 credit 1 fresh 10", 25);
        wrong("step at 1 credit 1 note 7", 24);
        // Terms: "THE ROUND: all STEPS in a row (each new one behind the others)."
        y.change(0, 1);
        put(y, STEP).suburb();
        due(y.round(0) * 100 + y.round(1) * 10 + y.round(2), 102);
        due(y.step(2, PLACE), 2);
    }

    private static void plainNumbers() {
        // Terms: "CHARGE 0 to 200 (60 at first), CRATES 0 to 99 (20 at first)"
        MilkDays x = suburb("charge 200;crates 99;price 20;birds 100;frost 100;day 999");
        due(x.count(CHARGE), 200);
        due(x.count(CRATES), 99);
        wrong("charge 201", 7);
        wrong("crates 100", 7);
        // Terms: "PRICE 0 to 20 (2 at first). BIRDS, FROST 0 to 100 (0 at first)."
        due(x.count(PRICE), 20);
        due(x.count(BIRDS), 100);
        due(x.count(FROST), 100);
        wrong("price 21", 6);
        wrong("birds 101", 6);
        wrong("frost 101", 6);
        // Terms: "credit, day: 0 to 999"
        due(x.count(DAY), 999);
        wrong("day 1000", 4);
        wrong("step at 1 credit 1000", 17);
        MilkDays y = suburb("charge 0;crates 0;price 0;birds 0;frost 0;day 0", "charge 1;crates 1;price 1;birds 1;frost 1;day 1",
            "charge 0;crates 0;price 0;birds 0;frost 0;day 0");
        for (int what = DAY; what <= FROST; what++) due(y.count(what), 0);
    }

    // ---- the tape

    private static void feed() {
        MilkDays x = new MilkDays();
        // Promise 2: "Twenty bytes come behind the TAPE, of each number the highest first: how many it has"
        due(x.feed(0x64617920, 0x31202020, 0x20202020, 0x20202020, 0x20203b64), 20);
        due(x.feed(0x61792032, 0x33342020, 0x20202020, 0x20202020, 0x20202020), 40);
        due(x.suburb(), 1);
        due(x.count(DAY), 234);
        due(x.feed(-1, LOWEST, HIGHEST, 0, 0), 20);
        fails(NO_NUMBER, x::suburb);
        due(x.fault(), 0);
        // Promise 2: "NONE, and none come, if it would have more than 400."
        for (int i = 1; i <= 20; i++) due(x.feed(0x20202020, 0x20202020, 0x20202020, 0x20202020, 0x20202020), 20 * i);
        due(x.feed(1, 2, 3, 4, 5), NONE);
        due(x.end(401), false);
        due(x.end(400), true);
        due(x.end(381), true);
        due(x.feed(1, 2, 3, 4, 5), NONE);
        due(x.end(382), false);
        due(x.suburb(), 2);
        for (int i = 1; i <= 20; i++) due(x.feed(0, 0, 0, 0, 0), 20 * i);
        due(x.end(380), true);
        due(x.feed(1, 2, 3, 4, 5), 400);
    }

    private static void end() {
        MilkDays x = new MilkDays();
        x.feed(0x64617920, 0x37373737, 0, 0, 0);
        // Promise 3: "false, and nothing happens, if it has fewer, or n is below 0."
        for (int n : new int[] {21, 400, HIGHEST, -1, LOWEST}) due(x.end(n), false);
        due(x.end(20), true);
        // Promise 3: "The TAPE has its first n bytes alone: true"
        due(x.end(5), true);
        due(x.end(6), false);
        due(x.suburb(), 1);
        due(x.count(DAY), 7);
        x.feed(0, 0, 0, 0, 0);
        due(x.end(0), true);
        due(x.end(0), true);
        due(x.suburb(), 2);
        due(put(x, "day 1").end(3), true);
        due(x.feed(0x20383838, 0x20202020, 0x20202020, 0x20202020, 0x20202020), 23);
        due(x.suburb() * 1000 + x.count(DAY), 3888);
    }

    // ---- THE SUBURB

    private static void suburbs() {
        MilkDays x = new MilkDays();
        // Promise 4: "Uses the TAPE up: a text of THE SUBURB: how many texts there are."
        due(put(x, "day 1").suburb(), 1);
        due(x.end(1), false);
        due(x.count(TEXTS), 1);
        // Terms: "A text that is empty, or blanks alone, has no LINE."
        due(x.suburb(), 2);
        due(put(x, "   ").suburb(), 3);
        due(x.count(DAY), 1);
        due(x.fault(), NONE);
        // Promise 4: "IllegalArgumentException: it is wrong": the TAPE is used up
        fails(NO_NUMBER, put(x, "day x")::suburb);
        due(x.end(1), false);
        due(x.count(TEXTS), 3);
        // Terms: "THE SUBURB is told in texts (at most 12, one behind another)"
        for (int i = 4; i <= 12; i++) due(put(x, "crates " + i).suburb(), i);
        due(x.count(CRATES), 12);
        // Promise 4: "UnsupportedOperationException: there are 12."
        x.charge(50);
        refused(put(x, "day 5"), FULL, x::suburb);
        due(x.end(1), false);
        refused(x, FULL, x::suburb);
        due(x.count(UNDOABLE), 1);
        due(x.count(TEXTS), 12);
        // Behind Terms: "and fault(), where a text is read (also by one that is refused)."
        fails(NO_NUMBER, put(x, "day x")::suburb);
        due(x.fault(), 4);
        fails(FULL, put(x, "day 5")::suburb);
        due(x.fault(), NONE);
        // Behind Terms: "Of several exceptions the one told first is thrown": wrong, and there are 12
        fails(NO_NUMBER, put(x, "day 5;")::suburb);
        due(x.fault(), 6);
        due(x.end(1), false);
        due(law(x, "sour 1").count(LINES), 1);
    }

    private static void suburbLines() {
        // Terms: "LINE { ; LINE }, at most 14"
        due(suburb(times(13, "day 1") + ";day 9").count(DAY), 9);
        wrong(times(15, "day 1"), 84);
        wrong(times(13, "day 1") + ";day 9;step", 84);
        // Terms: "step at N credit N [ kind N ] [ fresh N ] [ note N ] [ dog ]"
        MilkDays x = suburb("step at 1 credit 2 dog;step at 1 credit 2 note 3 dog;step at 1 credit 2 fresh 4;"
            + "step at 1 credit 2 kind 1 note 5;step at 1 credit 2 kind 1 dog");
        due(x.dogs(), 1 + 2 + 16);
        due(x.step(1, NOTE) * 100 + x.step(2, FRESH) * 10 + x.step(3, KIND), 341);
        wrong("step credit 1", 5);
        wrong("step 1", 5);
        wrong("step at", 7);
        wrong("step at credit 1", 8);
        wrong("step at 1", 9);
        wrong("step at 1 kind 1 credit 1", 10);
        wrong("step at 1 credit", 16);
        wrong("step at 1 credit dog", 17);
        wrong("step at 1 credit 1 kind", 23);
        wrong("step at 1 credit 1 kind dog", 24);
        wrong("step at 1 credit 1 fresh 1 kind 1", 27);
        wrong("step at 1 credit 1 fresh", 24);
        wrong("step at 1 credit 1 note 1 fresh 1", 26);
        wrong("step at 1 credit 1 note", 23);
        wrong("step at 1 credit 1 dog note 1", 23);
        wrong("step at 1 credit 1 dog dog", 23);
        wrong("step at 1 credit 1 dog 1", 23);
        wrong("step at 1 credit 1 old 1", 19);
        // Terms: "road N N long N | charge N | crates N | price N | birds N | frost N | day N."
        wrong("road", 4);
        wrong("road long 1", 5);
        wrong("road 0", 6);
        wrong("road 0 long 1", 7);
        wrong("road 0 1", 8);
        wrong("road 0 1 1", 9);
        wrong("road 0 1 long", 13);
        wrong("road 0 1 long 1 2", 16);
        for (String word : new String[] {"charge", "crates", "price", "birds", "frost", "day"}) {
            wrong(word, word.length());
            wrong(word + " dog", word.length() + 1);
            wrong(word + " 1 1", word.length() + 3);
        }
        // Terms: "(at: a CORNER; credit, day: 0 to 999; road: two CORNERS, the second not the first one, else it is wrong at it"
        wrong("step at 12 credit 1000", 8);
        wrong("road 3 3 long 1", 7);
        wrong("road 0 0 long 0", 7);
        wrong("road 11 011 long 1", 8);
        // Terms: "a ROAD told anew has the LENGTH told last."
        MilkDays y = suburb("road 4 5 long 2;road 5 4 long 9;road 6 7 long 1", "road 7 6 long 3");
        due(y.road(4, 5) * 10 + y.road(5, 4), 99);
        due(y.road(6, 7) * 10 + y.far(7, 6), 33);
        due(y.count(ROADS), 2);
    }

    // ---- what all texts have

    private static void thingsOfTexts() {
        // Terms: "Numbers are of 1 to 3 digits."
        due(suburb("day 007;charge 000;road 00 011 long 009").road(0, 11), 9);
        wrong("day 0007", 4);
        wrong("charge 0000", 7);
        wrong("day 99999999999999999999", 4);
        wrong("step at 0001 credit 1", 8);
        wrong("road 0000 1 long 1", 5);
        // Terms: "Words are as long as a to z go on; between all there may be blanks (32), also ahead and behind."
        MilkDays x = suburb("step at1credit2kind3fresh4note5dog;road0 1long7;day9");
        due(x.step(0, FRESH) * 100 + x.road(0, 1) * 10 + x.count(DAY), 479);
        due(suburb("   day   8   ;   charge   7   ").count(CHARGE), 7);
        wrong("days 1", 0);
        wrong("da 1", 0);
        wrong("stepat 1 credit 1", 0);
        wrong("step at 1 credit 1 dogdog", 19);
        wrong("step at 1 credit 1 do", 19);
        wrong("dayz 1", 0);
        wrong("zday 1", 0);
        wrong("daya 1", 0);
        wrong("step at 1 credit 1 dogz", 19);
        wrong("Day 1", 0);
        wrong("daY 1", 0);
        wrong("dayX 1", 3);
        wrong("step at 1 credit 1 dogX", 22);
        wrong("day 1x", 5);
        wrong("day\t1", 3);
        wrong("day\n1", 3);
        wrong("day" + (char) 160 + "1", 3);
        wrong("day 1" + (char) 0, 5);
        wrong("day`1", 3);
        wrong("day{1", 3);
        wrong("day 1/", 5);
        wrong("day 1:", 5);
        wrong("" + (char) 255, 0);
        due(law(new MilkDays(), " bird5if(dog)or not noted and step+1<2 ; break 1 ").count(LINES), 2);
        // Terms: "Of a wrong text nothing stays."
        wrong("step at 3 credit 3;road 0 1 long 9;road 4 5 long 1;charge 1;crates 1;price 1;birds 1;frost 1;day 1;day", 102);
        wrongLaw("sour 5;sour 6;bird 9 if dog;x", 28);
    }

    private static void firstWrongByte() {
        // Terms: "The first wrong byte: the begin of the first thing that cannot stand there (a number of more digits, or out of
        // its bounds; a word that is none; the ( or not that is a 7th one deep; of a LINE, a STEP too many, the first word), or
        // the text's length, if more must come."
        wrong("day 1000", 4);
        wrong("day   1000  ", 6);
        wrong("day 1 ; milk 5", 8);
        wrong("milk", 0);
        wrong("  milk", 2);
        wrong("7", 0);
        wrong("day 1 2", 6);
        wrong("day 1 day 2", 6);
        wrong("day 1, day 2", 5);
        wrong(";", 0);
        wrong("  ;", 2);
        wrong("day 1;;day 2", 6);
        wrong("(day 1)", 0);
        wrong("day -1", 4);
        wrong(times(14, "day 1") + ";x", 84);
        wrong(times(14, "day 1") + " ; day 1", 86);
        wrong(times(9, STEP), 18 * 7 + 7);
        wrongLaw(times(13, "sour 5"), 84);
        wrongLaw(times(12, "sour 5") + " ; 5", 86);
        // Terms: "or the text's length, if more must come."
        wrong("step", 4);
        wrong("step   ", 7);
        wrong("day", 3);
        wrong("day ", 4);
        wrong("day 1;", 6);
        wrong("day 1 ; ", 8);
        wrong(times(14, "day 1") + ";", 84);
        wrong(times(14, "day 1") + ";  ", 86);
        wrongLaw("bird", 4);
        wrongLaw("bird  ", 6);
        wrongLaw("sour 5;", 7);
        wrongLaw(times(12, "sour 5") + "; ", 85);
        wrong(" ".repeat(396) + "day ", 400);
    }

    private static void faults() {
        MilkDays x = new MilkDays();
        // Promise 6: "The first wrong byte of the latest text that was read; NONE without one, and ahead of any."
        fails(NO_NUMBER, put(x, "day x")::suburb);
        due(x.fault(), 4);
        due(x.fault(), 4);
        fails(NO_NUMBER, put(x, "sour 5 5")::law);
        due(x.fault(), 7);
        due(put(x, "day 1").suburb(), 1);
        due(x.fault(), NONE);
        fails(NO_NUMBER, put(x, "x")::law);
        due(x.fault(), 0);
        due(x.law(), 0);
        due(x.fault(), NONE);
        // Promise 6: "of the latest text that was read": what SEEN and ASK are told is no text
        fails(NO_NUMBER, put(x, "xy")::law);
        fails(NO_NUMBER, () -> told(x, 9).seen(false));
        fails(NO_NUMBER, () -> told(x, 9).ask());
        due(x.seen(false), 201);
        due(x.fault(), 0);
        // Terms: "all is as ahead of it (but for the TAPE, fault(), THE IMAGE)."
        x.charge(1);
        fails(NO_NUMBER, put(x, "day x")::suburb);
        due(x.undo(), true);
        due(x.fault(), 4);
        // Terms: "and gone back to (but for the TAPE, fault() and THE IMAGE itself)."
        x.image();
        fails(NO_NUMBER, put(x, "sour x")::law);
        due(x.back(), true);
        due(x.fault(), 5);
    }

    // ---- THE LAW

    private static void laws() {
        MilkDays x = suburb("step at 1 credit 1 dog;step at 1 credit 1");
        // Promise 5: "Uses the TAPE up: THE LAW: how many LINES."
        due(put(x, "bird 5;sour 6;sour 7 if dog").law(), 3);
        due(x.end(1), false);
        due(x.count(LINES), 3);
        // Terms: "THE LAW (a text, in place of the one before)"
        due(put(x, "sour 20").law(), 1);
        due(x.step(0, PECKS) * 100 + x.step(0, SOURS), 20);
        due(x.count(LINES), 1);
        // Terms: "A text that is empty, or blanks alone, has no LINE."
        due(x.law(), 0);
        due(x.count(LINES), 0);
        due(x.step(0, SOURS), 0);
        due(put(x, "  ").law(), 0);
        // Promise 5: "IllegalArgumentException: the text is wrong.": the TAPE is used up, the one before stays
        law(x, "sour 9");
        refused(put(x, "sour 9;bird"), NO_NUMBER, x::law);
        due(x.end(1), false);
        due(x.count(LINES) * 10 + x.step(0, SOURS), 19);
        // Terms: "in place of the one before": also where each of many is as long as can be
        for (int i = 0; i < 9; i++) due(put(x, "sour 1 if " + "1+".repeat(192) + "1<0").law(), 1);
        due(holds(x, "1 < 2"), true);
        due(holds(x, "1+".repeat(192) + "1<194"), true);
        due(holds(x, "1+".repeat(192) + "1<193"), false);
        // Terms: "LINE { ; LINE }, at most 12: bird N [ if C ] | break N [ if C ] | sour N [ if C ]."
        due(put(x, times(11, "sour 1") + ";sour 100").law(), 12);
        due(x.step(1, SOURS), 111);
        wrongLaw(times(13, "sour 5"), 84);
        wrongLaw(times(12, "sour 5") + ";;", 84);
        // Terms: "All numbers are of 1 to 3 digits (N 0 to 100)."
        due(law(x, "bird 0;break 100;sour 000;bird 100").step(0, BREAKS), 100);
        wrongLaw("bird 101", 5);
        wrongLaw("break 101", 6);
        wrongLaw("sour 101", 5);
        wrongLaw("sour 0001", 5);
        due(holds(x, "999 > 998 and 000 < 001"), true);
        wrongLaw("sour 5 if 1000 > 1", 10);
        wrongLaw("sour 5 if 1 < 0001", 14);
        // Terms: "PECKS by: BIRDS and the sum of N of all bird LINES that hold; BREAKS by: FROST and that of all break LINES;
        // SOURS by: that of all sour LINES."
        put(law(x, "bird 100;break 90;break 10"), "birds 3;frost 4").suburb();
        due(x.step(0, PECKS), 103);
        due(x.step(0, BREAKS), 104);
        due(x.step(0, SOURS), 0);
        law(x, "bird 10 if dog;bird 20 if not dog;bird 40;break 1 if dog;sour 2 if dog;sour 5 if not dog;sour 50 if dog and not dog");
        due(x.step(0, PECKS) * 1000 + x.step(1, PECKS), 53063);
        due(x.step(0, BREAKS) * 10 + x.step(1, BREAKS), 54);
        due(x.step(0, SOURS) * 10 + x.step(1, SOURS), 25);
        law(x, "");
        due(x.step(0, PECKS) * 10 + x.step(0, BREAKS), 34);
    }

    private static void conditions() {
        // Terms: "C: ALL { or ALL }; ALL: ATOM { and ATOM }; ATOM: not ATOM | ( C ) | dog | noted | SUM < SUM | SUM > SUM."
        MilkDays x = suburb("step at 2 credit 30 kind 1 fresh 4 note 5 dog;day 5");
        due(holds(x, "dog or dog and 2<1"), true);
        due(holds(x, "2<1 and dog or dog"), true);
        due(holds(x, "(dog or dog) and 2<1"), false);
        due(holds(x, "not 2<1 or dog"), true);
        due(holds(x, "not dog or dog"), true);
        due(holds(x, "not dog and 2<1"), false);
        due(holds(x, "not not dog"), true);
        due(holds(x, "2<2"), false);
        due(holds(x, "2>2"), false);
        due(holds(x, "1<2"), true);
        due(holds(x, "2>1"), true);
        wrongLaw("sour 5 if", 9);
        wrongLaw("sour 5 if not", 13);
        wrongLaw("sour 5 if dog and", 17);
        wrongLaw("sour 5 if dog or", 16);
        wrongLaw("sour 5 if and dog", 10);
        wrongLaw("sour 5 if dog dog", 14);
        wrongLaw("sour 5 if dog < 1", 14);
        wrongLaw("sour 5 if noted + 1 < 1", 16);
        wrongLaw("sour 5 if 1", 11);
        wrongLaw("sour 5 if 1 <", 13);
        wrongLaw("sour 5 if 1 = 1", 12);
        wrongLaw("sour 5 if 1 < dog", 14);
        wrongLaw("sour 5 if 1 < 2 < 3", 16);
        wrongLaw("sour 5 if (dog", 14);
        wrongLaw("sour 5 if (dog;sour 1", 14);
        wrongLaw("sour 5 if dog)", 13);
        wrongLaw("sour 5 if ()", 11);
        wrongLaw("sour 5 if (1) < 2", 12);
        wrongLaw("sour 5 dog", 7);
        wrongLaw("5", 0);
        wrongLaw("5 if dog", 0);
        wrongLaw("if dog", 0);
        wrongLaw("sour if dog", 5);
        wrongLaw("birds 5", 0);
        wrongLaw("step at 1 credit 1", 0);
        // Terms: "SUM: PART { + PART }; PART: NUMBER | step | corner | kind | credit | fresh | old | dry | week."
        due(holds(x, "1+2+3 < 3+4"), true);
        due(holds(x, "1+2+4 < 3+4"), false);
        due(holds(x, "999+999+999 > 999+999+998"), true);
        due(holds(x, "step < 1 and corner > 1 and corner < 3 and kind > 0 and kind < 2"), true);
        due(holds(x, "credit > 29 and credit < 31 and fresh > 3 and fresh < 5 and old < 1 and dry < 1"), true);
        wrongLaw("sour 5 if 1 + < 2", 14);
        wrongLaw("sour 5 if + 1 < 2", 10);
        wrongLaw("sour 5 if 1 + 2 < 3 +", 21);
        wrongLaw("sour 5 if empty > 1", 10);
        wrongLaw("sour 5 if note > 1", 10);
        wrongLaw("sour 5 if day > 1", 10);
        // Terms: "Of a STEP: week: the day of the week; noted: its NOTE is that day."
        due(holds(x, "week > 4 and week < 6 and noted"), true);
        put(x, "day 6").suburb();
        due(holds(x, "noted"), false);
        due(holds(x, "week > 5"), true);
        put(x, "day 12").suburb();
        due(holds(x, "week > 4 and week < 6 and noted"), true);
        put(x, "day 7").suburb();
        due(holds(x, "week < 1"), true);
        x.note(0, NONE);
        for (int day = 0; day < 7; day++) {
            put(x, "day " + day).suburb();
            due(holds(x, "noted"), false);
        }
    }

    private static void deep() {
        // Terms: "( and not within one another at most 6 deep."
        MilkDays x = suburb("step at 2 credit 30 dog");
        due(holds(x, "((((((dog))))))"), true);
        due(holds(x, "not not not not not not dog"), true);
        due(holds(x, "not(not(not(dog)))"), false);
        due(holds(x, "(((not not not dog))) or ((((((dog)))))) and not not not not not not dog"), true);
        // Terms: "the ( or not that is a 7th one deep"
        wrongLaw("sour 5 if (((((((dog)))))))", 16);
        wrongLaw("sour 5 if not not not not not not not dog", 34);
        wrongLaw("sour 5 if not(not(not(not dog)))", 22);
        wrongLaw("sour 5 if ((((((not dog))))))", 16);
        wrongLaw("sour 5 if not not not not not not (dog)", 34);
        wrongLaw("sour 5 if ((((((dog or dog and (dog)))))))", 31);
        wrongLaw("sour 5 if ((((((dog)))))) and (((((((dog", 36);
        wrongLaw("sour 5 if (((((((", 16);
        wrongLaw("sour 5 if ((((((", 16);
    }

    public static void main(String[] args) {
        atFirst();
        corners();
        steps();
        plainNumbers();
        feed();
        end();
        suburbs();
        suburbLines();
        thingsOfTexts();
        firstWrongByte();
        faults();
        laws();
        conditions();
        deep();
        done("EdgesTextsTest");
    }
}
