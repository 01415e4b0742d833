import java.util.Arrays;
import java.util.NoSuchElementException;

public final class MilkDays {
    public static final int NONE = -1;

    private static final int CORNERS = 12;
    private static final int STEPS = 8;
    private static final int KINDS = 4;
    private static final int WEEK = 7;
    private static final int TEXTS = 12;
    private static final int SUBURB_LINES = 14;
    private static final int LAW_LINES = 12;
    private static final int DEEPEST = 6;
    private static final int TAPE = 400;
    private static final int FED = 20;
    private static final int SEEN_BYTES = 40;
    private static final int DAYS = 60;
    private static final int LAST_DAY = 9999;
    private static final int ODDS_DAYS = 4;
    private static final int SPAN_SEEDS = 6;
    private static final int ACTS = 12;
    private static final int ROWS = 60;
    private static final int MOST_CHARGE = 200;
    private static final int MOST_CRATES = 99;
    private static final int MOST_CREDIT = 9999;
    private static final int TOLD_CREDIT = 999;
    private static final int MOST_PAID = 999;
    private static final int MOST_BOTTLES = 9;
    private static final int MOST_EMPTY = 99;
    private static final int MOST_DRY = 99;
    private static final int MOST_SHARED = 99;

    // More than any WAY, and more than any CHARGE: nine FARS are 891 at most, so a sum
    // of FARS that reaches it has one in it that nobody can go.
    private static final int NOWHERE = 1000;

    // The values of a STEP, by the numbers that step() has for them.
    private static final int CORNER = 0;
    private static final int KIND = 1;
    private static final int CREDIT = 2;
    private static final int FRESH = 3;
    private static final int OLD = 4;
    private static final int EMPTY = 5;
    private static final int DRY = 6;
    private static final int NOTE = 7;
    private static final int DOG = 8;
    private static final int VALUES = 9;
    private static final int PECKS = 9;
    private static final int BREAKS = 10;
    private static final int SOURS = 11;
    private static final int SHARE = 12;
    private static final int OUTER = 13;
    private static final int PLACE = 14;

    private final Tape tape = new Tape();
    private final Suburb now = new Suburb();
    private final Suburb draft = new Suburb();
    private final Suburb picture = new Suburb();
    private boolean pictured;
    // What was ahead of each ACT that can be UNDONE, in a ring.
    private final Days[] past = new Days[ACTS];
    private int nextAct;
    private int acts;
    private final Tours tours = new Tours();
    private final Pairs pairs = new Pairs();
    private final Watch watch = new Watch();
    private final int[] shared = new int[STEPS];

    public MilkDays() {
        for (int i = 0; i < ACTS; i++) {
            past[i] = new Days();
        }
    }

    // ---- the tape and the texts

    public int feed(int a, int b, int c, int d, int e) {
        if (!tape.hasRoom()) {
            return NONE;
        }
        tape.add(a);
        tape.add(b);
        tape.add(c);
        tape.add(d);
        tape.add(e);
        return tape.length;
    }

    public boolean end(int n) {
        return tape.keepFirst(n);
    }

    public int suburb() throws IllegalArgumentException, UnsupportedOperationException {
        draft.copyFrom(now);
        tape.startText();
        Texts.readSuburb(tape, draft);
        tape.useUp();
        if (tape.fault != NONE) {
            throw new IllegalArgumentException("the text is wrong");
        }
        if (now.days.texts >= TEXTS) {
            throw new UnsupportedOperationException("there are 12 texts");
        }
        now.copyFrom(draft);
        now.days.texts++;
        now.streets.measure();
        tours.forget();
        acts = 0;
        return now.days.texts;
    }

    public int law() throws IllegalArgumentException {
        draft.law.begin();
        tape.startText();
        Texts.readLaw(tape, draft.law);
        tape.useUp();
        if (tape.fault != NONE) {
            throw new IllegalArgumentException("the text is wrong");
        }
        now.law.copyFrom(draft.law);
        acts = 0;
        return now.law.lines;
    }

    public int fault() {
        return tape.fault;
    }

    // ---- what is

    public int step(int step, int what) throws IndexOutOfBoundsException, NoSuchElementException {
        needStep(step);
        if (what < CORNER || what > PLACE) {
            throw new NoSuchElementException("no such what");
        }
        switch (what) {
            case PECKS:
            case BREAKS:
            case SOURS:
                return now.law.weigh(what, now.days, step);
            case SHARE:
                return shareOf(step);
            case OUTER:
                return outerOf(step);
            case PLACE:
                return now.days.placeOf(step);
            default:
                return now.days.get(what, step);
        }
    }

    public int far(int corner, int other) throws IndexOutOfBoundsException {
        needCorner(corner);
        needCorner(other);
        return orNone(now.streets.between(corner, other));
    }

    public int road(int corner, int other) throws IndexOutOfBoundsException {
        needCorner(corner);
        needCorner(other);
        int length = now.streets.roadBetween(corner, other);
        return length > 0 ? length : NONE;
    }

    public int round(int place) throws IndexOutOfBoundsException {
        needStep(place);
        return now.days.stepAt(place);
    }

    // ---- acts

    public int mornings(int n) throws IllegalArgumentException {
        if (n < 1 || n > DAYS) {
            throw new IllegalArgumentException("no such number of mornings");
        }
        remember();
        int bottles = 0;
        for (int i = 0; i < n; i++) {
            bottles += now.deliver();
            now.writeLog();
            now.birdsAndFrost();
            now.drinkAndSour();
        }
        return bottles;
    }

    public int pay(int step, int n) throws IndexOutOfBoundsException, IllegalArgumentException {
        needStep(step);
        if (n < 1 || n > MOST_PAID) {
            throw new IllegalArgumentException("nobody pays so much");
        }
        remember();
        int credit = Math.min(MOST_CREDIT, now.days.get(CREDIT, step) + n);
        now.days.set(CREDIT, step, credit);
        return credit;
    }

    public int note(int step, int day) throws IndexOutOfBoundsException {
        needStep(step);
        if (day != NONE) {
            needWeekday(day);
        }
        return tell(NOTE, step, day);
    }

    public int kind(int step, int kind) throws IndexOutOfBoundsException {
        needStep(step);
        needKind(kind);
        return tell(KIND, step, kind);
    }

    public int change(int place, int other) throws IndexOutOfBoundsException, IllegalArgumentException {
        needStep(place);
        needStep(other);
        needTwo(place, other);
        remember();
        now.days.changePlaces(place, other);
        return now.days.stepAt(place);
    }

    public int charge(int n) throws IllegalArgumentException {
        if (n < 0 || n > MOST_CHARGE) {
            throw new IllegalArgumentException("no such charge");
        }
        remember();
        int was = now.days.charge;
        now.days.charge = n;
        return was;
    }

    public int crates(int n) throws IllegalArgumentException {
        if (n < 0 || n > MOST_CRATES) {
            throw new IllegalArgumentException("no such crates");
        }
        remember();
        int was = now.days.crates;
        now.days.crates = n;
        return was;
    }

    public int lend(int step, int other)
            throws IndexOutOfBoundsException, IllegalArgumentException, IllegalStateException {
        needStep(step);
        needStep(other);
        needTwo(step, other);
        int what = now.days.get(OLD, step) > 0 ? OLD : FRESH;
        int has = now.days.get(what, step);
        int hasOther = now.days.get(what, other);
        if (has < 1 || hasOther >= MOST_BOTTLES) {
            throw new IllegalStateException("no bottle can be lent");
        }
        remember();
        now.days.set(what, step, has - 1);
        now.days.set(what, other, hasOther + 1);
        return what == OLD ? 0 : 1;
    }

    // ---- the float's way

    public int leaves() {
        now.drive();
        return now.cart.came;
    }

    public int passed() {
        now.drive();
        return everyStep() & ~now.cart.came;
    }

    public int home() {
        now.drive();
        return now.cart.home;
    }

    public int way() {
        return orNone(now.wayWith(0, 0));
    }

    public int shortest(int k) {
        tours.measure(now);
        if (tours.wayOf(everyStep()) >= NOWHERE) {
            return NONE;
        }
        return k == NONE ? tours.wayOf(everyStep()) : tours.stepOfFirst(now, k);
    }

    public int most() {
        tours.measure(now);
        int best = 0;
        for (int set = 1; set <= everyStep(); set++) {
            boolean more = Integer.bitCount(set) > Integer.bitCount(best);
            if (more && tours.wayOf(set) <= now.days.charge) {
                best = set;
            }
        }
        return best;
    }

    public int least() {
        // A way home is never longer than one by other STEPS, so that the last STEP of
        // THE ROUND needs the most: all of WAY.
        int way = now.wayWith(0, 0);
        return way > MOST_CHARGE ? NONE : way;
    }

    public int dairy() {
        int best = NONE;
        int least = NOWHERE;
        for (int corner = 0; corner < CORNERS && now.days.steps > 0; corner++) {
            int sum = farToAll(corner);
            if (sum < least) {
                least = sum;
                best = corner;
            }
        }
        return best;
    }

    public int bridges() {
        int reached = reachedSteps(NONE, NONE, NONE);
        int bridges = 0;
        for (int corner = 0; corner < CORNERS; corner++) {
            for (int other = corner + 1; other < CORNERS; other++) {
                boolean road = now.streets.roadBetween(corner, other) > 0;
                if (road && reachedSteps(NONE, corner, other) != reached) {
                    bridges++;
                }
            }
        }
        return bridges;
    }

    public int cut(int corner) throws IndexOutOfBoundsException {
        needCorner(corner);
        return everyStep() & ~reachedSteps(corner, NONE, NONE);
    }

    // ---- days ahead

    public int dries(boolean who) {
        draft.copyFrom(now);
        for (int n = 1; n <= DAYS; n++) {
            draft.quietMornings(1);
            for (int step = 0; step < draft.days.steps; step++) {
                if (draft.days.get(DRY, step) > 0) {
                    return who ? step : n;
                }
            }
        }
        return NONE;
    }

    public int owes(int step) throws IndexOutOfBoundsException {
        needStep(step);
        draft.copyFrom(now);
        for (int n = 0; n <= DAYS; n++) {
            if (draft.days.get(CREDIT, step) < draft.days.price) {
                return n;
            }
            draft.quietMornings(1);
        }
        return NONE;
    }

    public int pays(int step, int n) throws IndexOutOfBoundsException, IllegalArgumentException {
        needStep(step);
        needDays(n);
        draft.copyFrom(now);
        int had = 0;
        for (int i = 0; i < n; i++) {
            draft.quietMornings(1);
            had += draft.cart.leftAt(step);
        }
        // What is left at a STEP does not hang on its CREDIT: each bottle takes PRICE once,
        // and PRICE must be there once more.
        int need = now.days.price * (had + 1);
        return need > TOLD_CREDIT ? NONE : need;
    }

    public int holds(int n) throws IllegalArgumentException {
        needDays(n);
        draft.copyFrom(now);
        draft.quietMornings(n);
        return draft.days.bottles();
    }

    public int ahead(int step, int n, int what)
            throws IndexOutOfBoundsException, IllegalArgumentException, NoSuchElementException {
        needStep(step);
        needDays(n);
        if (what < 0 || what > 3) {
            throw new NoSuchElementException("no such what");
        }
        draft.copyFrom(now);
        draft.quietMornings(n);
        switch (what) {
            case 0:
                return draft.days.get(FRESH, step);
            case 1:
                return draft.days.get(OLD, step);
            case 2:
                return draft.days.get(CREDIT, step);
            default:
                return draft.days.get(DRY, step);
        }
    }

    public int trial(int n, boolean dry) throws IllegalArgumentException {
        needDays(n);
        draft.copyFrom(now);
        draft.wildMornings(n);
        return dry ? draft.days.drySteps() : draft.days.bottles();
    }

    public int span(int n, boolean most) throws IllegalArgumentException {
        needDays(n);
        int found = NONE;
        for (int seed = 1; seed <= SPAN_SEEDS; seed++) {
            draft.copyFrom(now);
            draft.days.seed = seed;
            draft.wildMornings(n);
            int bottles = draft.days.bottles();
            if (found == NONE || (most ? bottles > found : bottles < found)) {
                found = bottles;
            }
        }
        return found;
    }

    // ---- the charge that is not known

    public int seen(boolean low) throws IllegalArgumentException {
        if (!watch.hear(tape, now.days.steps)) {
            throw new IllegalArgumentException("the tape is not that");
        }
        watch.look(now);
        return low ? watch.low : watch.fits;
    }

    public int ask() throws IllegalArgumentException {
        if (!watch.hear(tape, now.days.steps)) {
            throw new IllegalArgumentException("the tape is not that");
        }
        watch.look(now);
        return watch.bestStep(now.days.steps);
    }

    // ---- steps among one another

    public int neighbours(boolean far) {
        pairs.put(now);
        return far ? pairs.farTogether(everyStep()) : pairs.number(everyStep());
    }

    public int neighbour(int step) throws IndexOutOfBoundsException {
        needStep(step);
        pairs.put(now);
        return pairs.partnerOf(now, step);
    }

    public int gutter(int step, int n) throws IndexOutOfBoundsException, IllegalArgumentException {
        needStep(step);
        if (n < 0 || n > MOST_SHARED) {
            throw new IllegalArgumentException("no such number of bottles");
        }
        Arrays.fill(shared, 0);
        for (int i = 0; i < n; i++) {
            int next = mostOwed();
            if (next >= 0 && next < STEPS) {
                shared[next]++;
            }
        }
        return step < STEPS ? shared[step] : 0;
    }

    public int rests(int step, int other) throws IndexOutOfBoundsException, IllegalArgumentException {
        needStep(step);
        needStep(other);
        needTwo(step, other);
        int choices = 0;
        for (int one = 0; one < 2; one++) {
            for (int two = 0; two < 2; two++) {
                boolean rest = has(step, other, one, two) >= has(step, other, 1 - one, two)
                        && has(other, step, two, one) >= has(other, step, 1 - two, one);
                if (rest) {
                    choices |= 1 << (2 * one + two);
                }
            }
        }
        return choices;
    }

    public int cross() {
        int way = now.wayWith(0, 0);
        int pairsOfPlaces = 0;
        for (int place = 0; place + 1 < now.days.steps && way < NOWHERE; place++) {
            if (now.wayWith(place, place + 1) < way) {
                pairsOfPlaces++;
            }
        }
        return pairsOfPlaces;
    }

    public int swap() {
        int best = NONE;
        int least = now.wayWith(0, 0);
        if (least >= NOWHERE) {
            return NONE;
        }
        for (int place = 0; place < now.days.steps; place++) {
            for (int other = place + 1; other < now.days.steps; other++) {
                int way = now.wayWith(place, other);
                if (way < least) {
                    least = way;
                    best = STEPS * place + other;
                }
            }
        }
        return best;
    }

    public int foil(int kind) throws IndexOutOfBoundsException {
        needKind(kind);
        return now.days.stepsWith(KIND, kind);
    }

    public int dogs() {
        return now.days.stepsWith(DOG, 1);
    }

    public int noted(int day) throws IndexOutOfBoundsException {
        needWeekday(day);
        return now.days.stepsWith(NOTE, day);
    }

    public int thirsty() {
        int step = now.days.stepOfMost(DRY);
        return step != NONE && now.days.get(DRY, step) > 0 ? step : NONE;
    }

    public int rich() {
        return now.days.stepOfMost(CREDIT);
    }

    public int odds(int step, int n) throws IndexOutOfBoundsException, IllegalArgumentException {
        needStep(step);
        if (n < 0 || n > ODDS_DAYS) {
            throw new IllegalArgumentException("no such number of days");
        }
        int whole = 100 - Math.min(100, now.law.weigh(BREAKS, now.days, step));
        int odds = 10000;
        for (int i = 0; i < n; i++) {
            odds = odds * whole / 100;
        }
        return odds;
    }

    public int twins() {
        int twins = 0;
        for (int step = 0; step < now.days.steps; step++) {
            for (int other = step + 1; other < now.days.steps; other++) {
                if (now.days.alike(CORNER, step, other) && now.days.alike(KIND, step, other)) {
                    twins++;
                }
            }
        }
        return twins;
    }

    // ---- the log, acts undone, the image

    public int led(int step, boolean day) throws IndexOutOfBoundsException {
        needStep(step);
        return day ? now.days.log.latestDayOf(step) : now.days.log.rowsOf(step);
    }

    public int log(int ago, int what) throws NoSuchElementException {
        if (what < 0 || what >= Log.WIDTH) {
            throw new NoSuchElementException("no such what");
        }
        return now.days.log.cell(ago, what);
    }

    public int seed(int n) {
        int was = now.days.seed;
        now.days.seed = n;
        return was;
    }

    public boolean undo() {
        int latest = (nextAct + ACTS - 1) % ACTS;
        if (acts < 1 || latest < 0 || past[latest] == null) {
            return false;
        }
        now.days.copyFrom(past[latest]);
        nextAct = latest;
        acts--;
        return true;
    }

    public void image() {
        picture.copyFrom(now);
        pictured = true;
    }

    public boolean back() {
        if (!pictured) {
            return false;
        }
        now.copyFrom(picture);
        tours.forget();
        acts = 0;
        return true;
    }

    public int count(int what) {
        switch (what) {
            case 0:
                return now.days.steps;
            case 1:
                return now.days.texts;
            case 2:
                return now.law.lines;
            case 3:
                return now.days.day;
            case 4:
                return now.days.charge;
            case 5:
                return now.days.crates;
            case 6:
                return now.days.price;
            case 7:
                return now.days.birds;
            case 8:
                return now.days.frost;
            case 9:
                return now.streets.roads();
            case 10:
                return now.days.sum(FRESH);
            case 11:
                return now.days.sum(OLD);
            case 12:
                return now.days.log.rows;
            case 13:
                return acts;
            default:
                return NONE;
        }
    }

    // ---- helpers

    private void needStep(int step) {
        if (step < 0 || step >= now.days.steps) {
            throw new IndexOutOfBoundsException("no such step");
        }
    }

    private static void needCorner(int corner) {
        if (corner < 0 || corner >= CORNERS) {
            throw new IndexOutOfBoundsException("no such corner");
        }
    }

    private static void needKind(int kind) {
        if (kind < 0 || kind >= KINDS) {
            throw new IndexOutOfBoundsException("no such kind");
        }
    }

    private static void needWeekday(int day) {
        if (day < 0 || day >= WEEK) {
            throw new IndexOutOfBoundsException("no such day of the week");
        }
    }

    private static void needTwo(int one, int other) {
        if (one == other) {
            throw new IllegalArgumentException("both are one");
        }
    }

    private static void needDays(int n) {
        if (n < 0 || n > DAYS) {
            throw new IllegalArgumentException("no such number of days");
        }
    }

    private static int orNone(int far) {
        return far >= NOWHERE ? NONE : far;
    }

    private int everyStep() {
        return (1 << now.days.steps) - 1;
    }

    private void remember() {
        if (nextAct < 0 || nextAct >= ACTS || past[nextAct] == null) {
            return;
        }
        past[nextAct].copyFrom(now.days);
        nextAct = (nextAct + 1) % ACTS;
        acts = Math.min(ACTS, acts + 1);
    }

    private int tell(int what, int step, int value) {
        remember();
        int was = now.days.get(what, step);
        now.days.set(what, step, value);
        return was;
    }

    private int shareOf(int step) {
        int all = now.days.sum(CREDIT);
        return all > 0 ? now.days.get(CREDIT, step) * 100 / all : 0;
    }

    private int outerOf(int step) {
        int own = now.farFromDairy(step);
        int outer = 0;
        for (int other = 0; other < now.days.steps; other++) {
            int far = now.farFromDairy(other);
            if (far > own && far < NOWHERE) {
                outer++;
            }
        }
        return outer;
    }

    private int farToAll(int corner) {
        int sum = 0;
        for (int step = 0; step < now.days.steps; step++) {
            sum += now.streets.between(corner, now.days.get(CORNER, step));
        }
        return sum;
    }

    private int reachedSteps(int shut, int end, int otherEnd) {
        int corners = now.streets.reach(shut, end, otherEnd);
        int reached = 0;
        for (int step = 0; step < now.days.steps; step++) {
            if ((corners >> now.days.get(CORNER, step) & 1) != 0) {
                reached |= 1 << step;
            }
        }
        return reached;
    }

    private int mostOwed() {
        int best = NONE;
        int most = 0;
        for (int step = 0; step < now.days.steps && step < STEPS; step++) {
            int owed = now.days.get(DRY, step) - 2 * shared[step];
            if (best == NONE || owed > most) {
                most = owed;
                best = step;
            }
        }
        return best;
    }

    private int has(int step, int other, int choice, int otherChoice) {
        int old = now.days.get(OLD, step);
        boolean otherKeeps = otherChoice == 1;
        if (choice == 1) {
            return 2 * old + (otherKeeps ? 3 : 0);
        }
        int less = otherKeeps ? now.days.get(OLD, other) : 0;
        return 2 * now.days.get(FRESH, step) + old - less;
    }

    // ---- classes inside

    /** THE TAPE, and the reading of a text from it, thing by thing, up to the first wrong one. */
    private static final class Tape {
        static final int LETTER = 0;
        static final int DIGIT = 1;
        static final int SIGN = 2;

        final int[] bytes = new int[TAPE];
        int length;
        int fault = NONE;
        // Where the next thing of the text begins and ends; both its length, if none is left.
        int at;
        int to;

        boolean hasRoom() {
            return length + FED <= TAPE;
        }

        void add(int number) {
            for (int shift = 24; shift >= 0 && length < TAPE; shift -= 8) {
                bytes[length] = number >>> shift & 255;
                length++;
            }
        }

        boolean keepFirst(int n) {
            if (n < 0 || n > length) {
                return false;
            }
            length = n;
            return true;
        }

        void useUp() {
            length = 0;
        }

        int byteAt(int place) {
            return place >= 0 && place < length && place < TAPE ? bytes[place] : NONE;
        }

        static int sortOf(int sign) {
            if (sign >= 'a' && sign <= 'z') {
                return LETTER;
            }
            return sign >= '0' && sign <= '9' ? DIGIT : SIGN;
        }

        void startText() {
            fault = NONE;
            to = 0;
            goOn();
        }

        void goOn() {
            at = to;
            while (at < length && byteAt(at) == ' ') {
                at++;
            }
            to = at < length ? at + 1 : at;
            int sort = sortOf(byteAt(at));
            while (to < length && sort != SIGN && sortOf(byteAt(to)) == sort) {
                to++;
            }
        }

        boolean atEnd() {
            return at >= length;
        }

        void fail() {
            if (fault == NONE) {
                fault = at;
            }
        }

        /** With a LINE too many to come, or anything else, the text is wrong there. */
        void needEnd(boolean lineTooMany) {
            if (lineTooMany || !atEnd()) {
                fail();
            }
        }

        boolean nextIs(String word) {
            boolean same = fault == NONE && to - at == word.length();
            for (int i = 0; i < word.length() && same; i++) {
                same = byteAt(at + i) == word.charAt(i);
            }
            return same;
        }

        boolean nextIsDigit() {
            return sortOf(byteAt(at)) == DIGIT;
        }

        boolean word(String word) {
            boolean same = nextIs(word);
            if (same) {
                goOn();
            }
            return same;
        }

        void needWord(String word) {
            if (nextIs(word)) {
                goOn();
            } else {
                fail();
            }
        }

        int number(int low, int high, int except) {
            int digits = to - at;
            int value = 0;
            for (int i = at; i < to && digits <= 3; i++) {
                value = value * 10 + byteAt(i) - '0';
            }
            boolean fits = digits <= 3 && value >= low && value <= high && value != except;
            if (fault != NONE || !fits || !nextIsDigit()) {
                fail();
                return low;
            }
            goOn();
            return value;
        }
    }

    /**
     * Reads texts: of THE SUBURB into a draft, of which nothing stays if the text is wrong;
     * of THE LAW so that each condition becomes codes in the order in which they are reckoned.
     */
    private static final class Texts {
        static void readSuburb(Tape tape, Suburb draft) {
            boolean more = !tape.atEnd();
            for (int line = 0; line < SUBURB_LINES && more; line++) {
                readPlainLine(tape, draft);
                more = tape.word(";");
            }
            tape.needEnd(more);
        }

        static void readLaw(Tape tape, Law law) {
            boolean more = !tape.atEnd();
            for (int line = 0; line < LAW_LINES && more; line++) {
                int sort = readSort(tape);
                int amount = tape.number(0, 100, NONE);
                law.beginLine(sort, amount);
                if (tape.word("if")) {
                    readAny(tape, law, 0);
                }
                law.endLine();
                more = tape.word(";");
            }
            tape.needEnd(more);
        }

        private static void readPlainLine(Tape tape, Suburb draft) {
            Days days = draft.days;
            if (tape.nextIs("step") && days.steps < STEPS) {
                readStep(tape, days);
            } else if (tape.word("road")) {
                readRoad(tape, draft.streets);
            } else if (tape.word("charge")) {
                days.charge = tape.number(0, MOST_CHARGE, NONE);
            } else if (tape.word("crates")) {
                days.crates = tape.number(0, MOST_CRATES, NONE);
            } else if (tape.word("price")) {
                days.price = tape.number(0, 20, NONE);
            } else if (tape.word("birds")) {
                days.birds = tape.number(0, 100, NONE);
            } else if (tape.word("frost")) {
                days.frost = tape.number(0, 100, NONE);
            } else if (tape.word("day")) {
                days.day = tape.number(0, 999, NONE);
            } else {
                tape.fail();
            }
        }

        private static void readStep(Tape tape, Days days) {
            tape.needWord("step");
            tape.needWord("at");
            int step = days.addStep(tape.number(0, CORNERS - 1, NONE));
            tape.needWord("credit");
            days.set(CREDIT, step, tape.number(0, TOLD_CREDIT, NONE));
            if (tape.word("kind")) {
                days.set(KIND, step, tape.number(0, KINDS - 1, NONE));
            }
            if (tape.word("fresh")) {
                days.set(FRESH, step, tape.number(0, MOST_BOTTLES, NONE));
            }
            if (tape.word("note")) {
                days.set(NOTE, step, tape.number(0, WEEK - 1, NONE));
            }
            if (tape.word("dog")) {
                days.set(DOG, step, 1);
            }
        }

        private static void readRoad(Tape tape, Streets streets) {
            int corner = tape.number(0, CORNERS - 1, NONE);
            int other = tape.number(0, CORNERS - 1, corner);
            tape.needWord("long");
            streets.setRoad(corner, other, tape.number(1, 9, NONE));
        }

        private static int readSort(Tape tape) {
            if (tape.word("bird")) {
                return PECKS;
            }
            if (tape.word("break")) {
                return BREAKS;
            }
            tape.needWord("sour");
            return SOURS;
        }

        private static void readAny(Tape tape, Law law, int depth) {
            readAll(tape, law, depth);
            for (int i = 0; i < TAPE && tape.word("or"); i++) {
                readAll(tape, law, depth);
                law.put(Law.OR);
            }
        }

        private static void readAll(Tape tape, Law law, int depth) {
            readAtom(tape, law, depth);
            for (int i = 0; i < TAPE && tape.word("and"); i++) {
                readAtom(tape, law, depth);
                law.put(Law.AND);
            }
        }

        private static void readAtom(Tape tape, Law law, int depth) {
            boolean deeper = tape.nextIs("not") || tape.nextIs("(");
            if (deeper && depth >= DEEPEST) {
                tape.fail();
            } else if (tape.word("not")) {
                readAtom(tape, law, depth + 1);
                law.put(Law.NOT);
            } else if (tape.word("(")) {
                readAny(tape, law, depth + 1);
                tape.needWord(")");
            } else if (tape.word("dog")) {
                law.put(Law.valueCode(DOG));
            } else if (tape.word("noted")) {
                law.put(Law.NOTED);
            } else {
                readSum(tape, law);
                int code = tape.nextIs("<") ? Law.LESS : Law.MORE;
                tape.needWord(code == Law.LESS ? "<" : ">");
                readSum(tape, law);
                law.put(code);
            }
        }

        private static void readSum(Tape tape, Law law) {
            readPart(tape, law);
            for (int i = 0; i < TAPE && tape.word("+"); i++) {
                readPart(tape, law);
                law.put(Law.ADD);
            }
        }

        private static void readPart(Tape tape, Law law) {
            if (tape.nextIsDigit()) {
                law.put(tape.number(0, 999, NONE));
            } else if (tape.word("step")) {
                law.put(Law.NUMBER);
            } else if (tape.word("corner")) {
                law.put(Law.valueCode(CORNER));
            } else if (tape.word("kind")) {
                law.put(Law.valueCode(KIND));
            } else if (tape.word("credit")) {
                law.put(Law.valueCode(CREDIT));
            } else if (tape.word("fresh")) {
                law.put(Law.valueCode(FRESH));
            } else if (tape.word("old")) {
                law.put(Law.valueCode(OLD));
            } else if (tape.word("dry")) {
                law.put(Law.valueCode(DRY));
            } else if (tape.word("week")) {
                law.put(Law.WEEKDAY);
            } else {
                tape.fail();
            }
        }
    }

    /** THE LAW: LINES, and codes that a small stack reckons; codes from 0 on are plain numbers. */
    private static final class Law {
        static final int OR = -1;
        static final int AND = -2;
        static final int NOT = -3;
        static final int LESS = -4;
        static final int MORE = -5;
        static final int ADD = -6;
        static final int NOTED = -7;
        static final int NUMBER = -8;
        static final int WEEKDAY = -9;
        static final int FIRST_VALUE = -10;
        // Each of seven levels keeps two results at most, and a comparison three numbers.
        static final int STACK = 32;

        final int[] sorts = new int[LAW_LINES];
        final int[] amounts = new int[LAW_LINES];
        final int[] begins = new int[LAW_LINES];
        final int[] ends = new int[LAW_LINES];
        final int[] codes = new int[TAPE];
        final int[] stack = new int[STACK];
        int lines = NONE;
        int size;
        int top;

        static int valueCode(int what) {
            return FIRST_VALUE - what;
        }

        void begin() {
            lines = 0;
            size = 0;
        }

        void beginLine(int sort, int amount) {
            if (lines >= 0 && lines < LAW_LINES) {
                sorts[lines] = sort;
                amounts[lines] = amount;
                begins[lines] = size;
            }
        }

        void endLine() {
            if (lines >= 0 && lines < LAW_LINES) {
                ends[lines] = size;
                lines++;
            }
        }

        void put(int code) {
            if (size >= 0 && size < TAPE) {
                codes[size] = code;
                size++;
            }
        }

        void copyFrom(Law other) {
            lines = other.lines;
            size = other.size;
            System.arraycopy(other.sorts, 0, sorts, 0, LAW_LINES);
            System.arraycopy(other.amounts, 0, amounts, 0, LAW_LINES);
            System.arraycopy(other.begins, 0, begins, 0, LAW_LINES);
            System.arraycopy(other.ends, 0, ends, 0, LAW_LINES);
            System.arraycopy(other.codes, 0, codes, 0, TAPE);
        }

        /** What a STEP PECKS, BREAKS or SOURS by. */
        int weigh(int sort, Days days, int step) {
            int sum = sort == PECKS ? days.birds : sort == BREAKS ? days.frost : 0;
            for (int line = 0; line < lines && line < LAW_LINES; line++) {
                if (sorts[line] == sort && applies(begins[line], ends[line], days, step)) {
                    sum += amounts[line];
                }
            }
            return sum;
        }

        boolean applies(int begin, int end, Days days, int step) {
            top = 0;
            for (int i = begin; i >= 0 && i < end && i < TAPE; i++) {
                int code = codes[i];
                if (code >= 0) {
                    push(code);
                } else if (code <= FIRST_VALUE) {
                    push(days.get(FIRST_VALUE - code, step));
                } else if (code == NUMBER) {
                    push(step);
                } else if (code == WEEKDAY) {
                    push(days.weekday());
                } else if (code == NOTED) {
                    push(days.isNoted(step) ? 1 : 0);
                } else if (code == NOT) {
                    push(1 - pop());
                } else {
                    int right = pop();
                    push(joined(code, pop(), right));
                }
            }
            return begin >= end || pop() != 0;
        }

        static int joined(int code, int left, int right) {
            switch (code) {
                case OR:
                    return left | right;
                case AND:
                    return left & right;
                case LESS:
                    return left < right ? 1 : 0;
                case MORE:
                    return left > right ? 1 : 0;
                default:
                    return left + right;
            }
        }

        void push(int value) {
            if (top >= 0 && top < STACK) {
                stack[top] = value;
                top++;
            }
        }

        int pop() {
            if (top < 1 || top > STACK) {
                return 0;
            }
            top--;
            return stack[top];
        }
    }

    /** THE LOG: a ring of rows. */
    private static final class Log {
        static final int WIDTH = 4;
        static final int STEP_CELL = 1;

        final int[] cells = new int[ROWS * WIDTH];
        int rows;
        int next;

        void add(int day, int step, int bottles, int charge) {
            int begin = next * WIDTH;
            if (begin < 0 || begin + WIDTH > cells.length) {
                return;
            }
            cells[begin] = day;
            cells[begin + 1] = step;
            cells[begin + 2] = bottles;
            cells[begin + 3] = charge;
            next = (next + 1) % ROWS;
            rows = Math.min(ROWS, rows + 1);
        }

        int cell(int ago, int what) {
            if (ago < 0 || ago >= rows || what < 0 || what >= WIDTH) {
                return NONE;
            }
            int index = (next + ROWS - 1 - ago) % ROWS * WIDTH + what;
            return index >= 0 && index < cells.length ? cells[index] : NONE;
        }

        int rowsOf(int step) {
            int found = 0;
            for (int ago = 0; ago < rows; ago++) {
                if (cell(ago, STEP_CELL) == step) {
                    found++;
                }
            }
            return found;
        }

        int latestDayOf(int step) {
            for (int ago = 0; ago < rows; ago++) {
                if (cell(ago, STEP_CELL) == step) {
                    return cell(ago, 0);
                }
            }
            return NONE;
        }

        void copyFrom(Log other) {
            rows = other.rows;
            next = other.next;
            System.arraycopy(other.cells, 0, cells, 0, ROWS * WIDTH);
        }
    }

    /** The STEPS with all their values, THE ROUND and the plain numbers: what an ACT may change. */
    private static final class Days {
        final int[] values = new int[VALUES * STEPS];
        final int[] places = new int[STEPS];
        final Log log = new Log();
        int steps;
        int texts;
        int charge = 60;
        int crates = 20;
        int price = 2;
        int birds;
        int frost;
        int day;
        int seed = 1;

        void copyFrom(Days other) {
            System.arraycopy(other.values, 0, values, 0, VALUES * STEPS);
            System.arraycopy(other.places, 0, places, 0, STEPS);
            log.copyFrom(other.log);
            steps = other.steps;
            texts = other.texts;
            charge = other.charge;
            crates = other.crates;
            price = other.price;
            birds = other.birds;
            frost = other.frost;
            day = other.day;
            seed = other.seed;
        }

        int get(int what, int step) {
            boolean there = what >= 0 && what < VALUES && step >= 0 && step < STEPS;
            return there ? values[what * STEPS + step] : 0;
        }

        void set(int what, int step, int value) {
            if (what >= 0 && what < VALUES && step >= 0 && step < STEPS) {
                values[what * STEPS + step] = value;
            }
        }

        int addStep(int corner) {
            if (steps < 0 || steps >= STEPS) {
                return NONE;
            }
            int step = steps;
            steps++;
            for (int what = 0; what < VALUES; what++) {
                set(what, step, 0);
            }
            set(CORNER, step, corner);
            set(NOTE, step, NONE);
            places[step] = step;
            return step;
        }

        int stepAt(int place) {
            return place >= 0 && place < STEPS ? places[place] : NONE;
        }

        int placeOf(int step) {
            for (int place = 0; place < steps; place++) {
                if (stepAt(place) == step) {
                    return place;
                }
            }
            return NONE;
        }

        void changePlaces(int place, int other) {
            if (place >= 0 && place < STEPS && other >= 0 && other < STEPS) {
                int step = places[place];
                places[place] = places[other];
                places[other] = step;
            }
        }

        int weekday() {
            return day % WEEK;
        }

        boolean isNoted(int step) {
            return get(NOTE, step) == weekday();
        }

        boolean alike(int what, int step, int other) {
            return get(what, step) == get(what, other);
        }

        int sum(int what) {
            int sum = 0;
            for (int step = 0; step < steps; step++) {
                sum += get(what, step);
            }
            return sum;
        }

        int bottles() {
            return sum(FRESH) + sum(OLD);
        }

        int drySteps() {
            int found = 0;
            for (int step = 0; step < steps; step++) {
                if (get(DRY, step) > 0) {
                    found |= 1 << step;
                }
            }
            return found;
        }

        int stepsWith(int what, int value) {
            int found = 0;
            for (int step = 0; step < steps; step++) {
                if (get(what, step) == value) {
                    found |= 1 << step;
                }
            }
            return found;
        }

        int stepOfMost(int what) {
            int best = NONE;
            for (int step = 0; step < steps; step++) {
                if (best == NONE || get(what, step) > get(what, best)) {
                    best = step;
                }
            }
            return best;
        }

        void addBottles(int what, int step, int more) {
            set(what, step, Math.min(MOST_BOTTLES, get(what, step) + more));
        }

        void take(int what, int step) {
            set(what, step, get(what, step) - 1);
        }

        void receive(int step, int bottles) {
            for (int i = 0; i < bottles; i++) {
                int credit = get(CREDIT, step);
                if (credit >= price) {
                    set(CREDIT, step, credit - price);
                    addBottles(FRESH, step, 1);
                } else {
                    addBottles(OLD, step, 1);
                }
            }
            set(EMPTY, step, 0);
        }

        void drink(int step) {
            if (get(OLD, step) == 0 && get(FRESH, step) == 0) {
                set(DRY, step, Math.min(MOST_DRY, get(DRY, step) + 1));
                return;
            }
            take(get(OLD, step) > 0 ? OLD : FRESH, step);
            set(EMPTY, step, Math.min(MOST_EMPTY, get(EMPTY, step) + 1));
            set(DRY, step, 0);
        }

        void turn(int step, int sours) {
            set(OLD, step, Math.max(0, get(OLD, step) - sours));
            addBottles(OLD, step, get(FRESH, step));
            set(FRESH, step, 0);
        }

        int draw() {
            seed = 1103515245 * seed + 12345;
            return seed >>> 16 & 0x7fff;
        }
    }

    /** ROADS and FARS. */
    private static final class Streets {
        final int[] roads = new int[CORNERS * CORNERS];
        final int[] fars = new int[CORNERS * CORNERS];

        Streets() {
            Arrays.fill(fars, NOWHERE);
            for (int corner = 0; corner < CORNERS; corner++) {
                fars[corner * CORNERS + corner] = 0;
            }
        }

        static boolean isCorner(int corner) {
            return corner >= 0 && corner < CORNERS;
        }

        int roadBetween(int corner, int other) {
            return isCorner(corner) && isCorner(other) ? roads[corner * CORNERS + other] : 0;
        }

        void setRoad(int corner, int other, int length) {
            if (isCorner(corner) && isCorner(other)) {
                roads[corner * CORNERS + other] = length;
                roads[other * CORNERS + corner] = length;
            }
        }

        int between(int corner, int other) {
            return isCorner(corner) && isCorner(other) ? fars[corner * CORNERS + other] : NOWHERE;
        }

        void copyFrom(Streets other) {
            System.arraycopy(other.roads, 0, roads, 0, CORNERS * CORNERS);
            System.arraycopy(other.fars, 0, fars, 0, CORNERS * CORNERS);
        }

        int roads() {
            int found = 0;
            for (int i = 0; i < CORNERS * CORNERS; i++) {
                found += roads[i] > 0 ? 1 : 0;
            }
            return found / 2;
        }

        void measure() {
            for (int i = 0; i < CORNERS * CORNERS; i++) {
                fars[i] = roads[i] > 0 ? roads[i] : NOWHERE;
            }
            for (int corner = 0; corner < CORNERS; corner++) {
                fars[corner * CORNERS + corner] = 0;
            }
            for (int by = 0; by < CORNERS; by++) {
                for (int corner = 0; corner < CORNERS; corner++) {
                    shorten(corner, by);
                }
            }
        }

        void shorten(int corner, int by) {
            int first = between(corner, by);
            for (int other = 0; other < CORNERS && first < NOWHERE; other++) {
                int far = first + between(by, other);
                if (isCorner(corner) && far < between(corner, other)) {
                    fars[corner * CORNERS + other] = far;
                }
            }
        }

        /** CORNERS that can be reached from CORNER 0, as bits, with a CORNER shut and a ROAD gone. */
        int reach(int shut, int end, int otherEnd) {
            int reached = shut == 0 ? 0 : 1;
            int left = reached;
            for (int turn = 0; turn < CORNERS && left != 0; turn++) {
                int corner = lowest(left);
                left &= ~(1 << corner);
                for (int other = 0; other < CORNERS; other++) {
                    boolean gone = corner == end && other == otherEnd || corner == otherEnd && other == end;
                    boolean open = roadBetween(corner, other) > 0 && other != shut && !gone;
                    if (open && (reached >> other & 1) == 0) {
                        reached |= 1 << other;
                        left |= 1 << other;
                    }
                }
            }
            return reached;
        }

        static int lowest(int set) {
            for (int i = 0; i < CORNERS; i++) {
                if ((set >> i & 1) != 0) {
                    return i;
                }
            }
            return 0;
        }
    }

    /** The float on one MORNING: where it comes, and what it leaves there. */
    private static final class Cart {
        final int[] left = new int[STEPS];
        final int[] rest = new int[STEPS];
        int came;
        int gave;
        int total;
        int home;

        int leftAt(int step) {
            return step >= 0 && step < STEPS ? left[step] : 0;
        }

        int restAt(int step) {
            return step >= 0 && step < STEPS ? rest[step] : 0;
        }

        boolean comesTo(int step) {
            return (came >> step & 1) != 0;
        }

        void drive(Days days, Streets streets, int charge) {
            Arrays.fill(left, 0);
            came = 0;
            gave = 0;
            total = 0;
            int corner = 0;
            int power = charge;
            for (int place = 0; place < days.steps; place++) {
                int step = days.stepAt(place);
                int there = streets.between(corner, days.get(CORNER, step));
                int needs = there + streets.between(days.get(CORNER, step), 0);
                if (needs <= power) {
                    corner = days.get(CORNER, step);
                    power -= there;
                    leave(step, Math.min(days.crates - total, days.isNoted(step) ? 2 : 1), power);
                }
            }
            home = power - streets.between(corner, 0);
        }

        void leave(int step, int bottles, int power) {
            if (step < 0 || step >= STEPS) {
                return;
            }
            came |= 1 << step;
            gave |= bottles > 0 ? 1 << step : 0;
            left[step] = bottles;
            rest[step] = power;
            total += bottles;
        }
    }

    /** All of a suburb, its law too, and how its MORNINGS go. */
    private static final class Suburb {
        final Days days = new Days();
        final Streets streets = new Streets();
        final Law law = new Law();
        final Cart cart = new Cart();

        void copyFrom(Suburb other) {
            days.copyFrom(other.days);
            streets.copyFrom(other.streets);
            law.copyFrom(other.law);
        }

        int farFromDairy(int step) {
            return streets.between(0, days.get(CORNER, step));
        }

        /** WAY, were these two places changed. */
        int wayWith(int place, int other) {
            int corner = 0;
            int way = 0;
            for (int i = 0; i < days.steps; i++) {
                int from = i == place ? other : i == other ? place : i;
                int next = days.get(CORNER, days.stepAt(from));
                way += streets.between(corner, next);
                corner = next;
            }
            return way + streets.between(corner, 0);
        }

        void drive() {
            cart.drive(days, streets, days.charge);
        }

        int deliver() {
            drive();
            for (int step = 0; step < days.steps; step++) {
                if (cart.comesTo(step)) {
                    days.receive(step, cart.leftAt(step));
                }
            }
            return cart.total;
        }

        void writeLog() {
            for (int place = 0; place < days.steps; place++) {
                int step = days.stepAt(place);
                if (cart.leftAt(step) > 0) {
                    days.log.add(days.day, step, cart.leftAt(step), cart.restAt(step));
                }
            }
        }

        void birdsAndFrost() {
            for (int step = 0; step < days.steps; step++) {
                if (days.get(FRESH, step) > 0 && days.draw() % 100 < law.weigh(PECKS, days, step)) {
                    days.take(FRESH, step);
                    days.addBottles(OLD, step, 1);
                }
                if (days.get(FRESH, step) > 0 && days.draw() % 100 < law.weigh(BREAKS, days, step)) {
                    days.take(FRESH, step);
                }
            }
        }

        void drinkAndSour() {
            for (int step = 0; step < days.steps; step++) {
                days.drink(step);
            }
            for (int step = 0; step < days.steps; step++) {
                days.turn(step, law.weigh(SOURS, days, step));
            }
            days.day = Math.min(LAST_DAY, days.day + 1);
        }

        void quietMornings(int n) {
            for (int i = 0; i < n; i++) {
                deliver();
                drinkAndSour();
            }
        }

        void wildMornings(int n) {
            for (int i = 0; i < n; i++) {
                deliver();
                birdsAndFrost();
                drinkAndSour();
            }
        }
    }

    /**
     * For each set of STEPS and each place from which one sets out, the least way by all of
     * the set and home. Acts change neither CORNERS nor ROADS, so it is reckoned anew only
     * behind a text and behind going back.
     */
    private static final class Tours {
        static final int SETS = 1 << STEPS;
        static final int STARTS = STEPS + 1;
        static final int DAIRY = STEPS;

        final int[] rests = new int[SETS * STARTS];
        boolean known;

        void forget() {
            known = false;
        }

        int restOf(int set, int start) {
            boolean there = set >= 0 && set < SETS && start >= 0 && start < STARTS;
            return there ? rests[set * STARTS + start] : NOWHERE;
        }

        int wayOf(int set) {
            return restOf(set, DAIRY);
        }

        static int cornerOf(Suburb suburb, int start) {
            return start == DAIRY ? 0 : suburb.days.get(CORNER, start);
        }

        void measure(Suburb suburb) {
            if (known) {
                return;
            }
            int sets = 1 << suburb.days.steps;
            for (int set = 0; set < sets && set < SETS; set++) {
                for (int start = 0; start < STARTS; start++) {
                    boolean inside = (set >> start & 1) != 0;
                    rests[set * STARTS + start] = inside ? NOWHERE : leastFrom(suburb, set, start);
                }
            }
            known = true;
        }

        int leastFrom(Suburb suburb, int set, int start) {
            int corner = cornerOf(suburb, start);
            if (set == 0) {
                return suburb.streets.between(corner, 0);
            }
            int least = NOWHERE;
            for (int step = 0; step < suburb.days.steps; step++) {
                if ((set >> step & 1) != 0) {
                    least = Math.min(least, wayBy(suburb, set, corner, step));
                }
            }
            return least;
        }

        int wayBy(Suburb suburb, int set, int corner, int step) {
            int there = suburb.streets.between(corner, suburb.days.get(CORNER, step));
            return there + restOf(set & ~(1 << step), step);
        }

        /** The k-th STEP of the first order that is the least one; only where all can be reached. */
        int stepOfFirst(Suburb suburb, int k) {
            int set = (1 << suburb.days.steps) - 1;
            int start = DAIRY;
            for (int place = 0; place < suburb.days.steps; place++) {
                start = firstStep(suburb, set, start);
                if (place == k) {
                    return start;
                }
                set &= ~(1 << start);
            }
            return NONE;
        }

        int firstStep(Suburb suburb, int set, int start) {
            int corner = cornerOf(suburb, start);
            for (int step = 0; step < suburb.days.steps; step++) {
                boolean inside = (set >> step & 1) != 0;
                if (inside && wayBy(suburb, set, corner, step) == restOf(set, start)) {
                    return step;
                }
            }
            return 0;
        }
    }

    /**
     * NEIGHBOURS: for each set of STEPS how well it can be put two by two. More pairs go
     * ahead of less FAR: a pair counts 1000, less its FAR (four FARS are 396 at most).
     */
    private static final class Pairs {
        static final int PAIR = 1000;
        static final int SETS = 1 << STEPS;

        final int[] bests = new int[SETS];

        int best(int set) {
            return set >= 0 && set < SETS ? bests[set] : 0;
        }

        int number(int set) {
            return (best(set) + PAIR - 1) / PAIR;
        }

        int farTogether(int set) {
            return number(set) * PAIR - best(set);
        }

        void put(Suburb suburb) {
            int sets = 1 << suburb.days.steps;
            for (int set = 1; set < sets && set < SETS; set++) {
                int step = Streets.lowest(set);
                int alone = set & ~(1 << step);
                bests[set] = best(alone);
                for (int other = step + 1; other < suburb.days.steps; other++) {
                    if ((alone >> other & 1) != 0) {
                        bests[set] = Math.max(bests[set], withPair(suburb, set, step, other));
                    }
                }
            }
        }

        int withPair(Suburb suburb, int set, int step, int other) {
            int far = suburb.streets.between(suburb.days.get(CORNER, step), suburb.days.get(CORNER, other));
            int others = set & ~(1 << step) & ~(1 << other);
            return far < NOWHERE ? best(others) + PAIR - far : NONE;
        }

        int partnerOf(Suburb suburb, int step) {
            int set = (1 << suburb.days.steps) - 1;
            for (int i = 0; i < STEPS && set != 0; i++) {
                int first = Streets.lowest(set);
                int partner = firstPartner(suburb, set, first);
                if (first == step) {
                    return partner;
                }
                set &= ~(1 << first);
                if (partner == step) {
                    return first;
                }
                set = partner == NONE ? set : set & ~(1 << partner);
            }
            return NONE;
        }

        int firstPartner(Suburb suburb, int set, int first) {
            for (int other = first + 1; other < suburb.days.steps; other++) {
                boolean inside = (set >> other & 1) != 0;
                if (inside && withPair(suburb, set, first, other) == best(set)) {
                    return other;
                }
            }
            return NONE;
        }
    }

    /** SEEN and ASK: which CHARGES fit what was told. */
    private static final class Watch {
        final int[] got = new int[STEPS];
        int yes;
        int no;
        int fits;
        int low;

        /** Uses the TAPE up; whether it was what must be told. */
        boolean hear(Tape tape, int steps) {
            boolean right = tape.length <= SEEN_BYTES && tape.length % 2 == 0;
            yes = 0;
            no = 0;
            for (int i = 0; i + 1 < tape.length && right; i += 2) {
                int step = tape.byteAt(i);
                int left = tape.byteAt(i + 1);
                right = step >= 0 && step < steps && (left == 0 || left == 1);
                yes |= right && left == 1 ? 1 << step : 0;
                no |= right && left == 0 ? 1 << step : 0;
            }
            tape.useUp();
            return right;
        }

        void look(Suburb suburb) {
            Arrays.fill(got, 0);
            fits = 0;
            low = NONE;
            for (int charge = 0; charge <= MOST_CHARGE; charge++) {
                suburb.cart.drive(suburb.days, suburb.streets, charge);
                int gave = suburb.cart.gave;
                if ((gave & yes) == yes && (gave & no) == 0) {
                    low = fits == 0 ? charge : low;
                    fits++;
                    countGiven(gave);
                }
            }
        }

        void countGiven(int gave) {
            for (int step = 0; step < STEPS; step++) {
                got[step] += gave >> step & 1;
            }
        }

        int bestStep(int steps) {
            int best = NONE;
            int least = 0;
            for (int step = 0; step < steps && step < STEPS && fits >= 2; step++) {
                int greater = Math.max(got[step], fits - got[step]);
                if (best == NONE || greater < least) {
                    least = greater;
                    best = step;
                }
            }
            return best;
        }
    }
}
