/** The long field: who lies in it, who is needed, and who comes up when it is ploughed by night. */
public final class PloughTurns {
    public static final int NONE = -1, BAD = -2, NOT = -3, FULL = -4;

    private static final int NIGHTS = 24, SIDE = 6, MOST = 8, FARTHEST = 9;
    private static final int DEAD = 0, ABROAD = 1, ROMAN = 2, SORTS = 3;
    private static final int PLOUGH = 0, HARROW = 1;
    private static final int EVERY_EVENT = -1;
    private static final int SIXTEENTHS = 16;
    private static final int GONE_BYTES = 39, NEED_BYTES = 31;
    private static final int SHEETS = 4, FORMS = 3, ITEMS = 60, LOST = -1;
    private static final int NULL = 1, INDEX = 2, CAST = 3, STORE = 4, SIZE = 5;
    private static final int LEAST_INT = 1 << 31;
    private static final long LEAST_LONG = 1L << 63;

    private final Text goneText = new Text(GONE_BYTES);
    private final Text needText = new Text(NEED_BYTES);
    private final Gone gone = new Gone();
    private final Needs needs = new Needs();
    private final Events events = new Events();
    private final Events drawn = new Events();
    private final Sightings sightings = new Sightings();
    private final Course told = new Course();
    private final Course trial = new Course();
    private final Odds odds = new Odds();
    private final int[] looks = new int[FARTHEST * NIGHTS];
    private final Sheet[] sheets = new Sheet[SHEETS];
    private boolean toldIsStale = true;
    private boolean oddsAreStale = true;
    private int latestFinding = 0;

    public PloughTurns() {
        for (int s = 0; s < SHEETS; s++) {
            sheets[s] = new Sheet();
        }
    }

    // ---- the gone, needs, events

    public int type(int text, int b) {
        if (!isBelow(text, 2) || !isBelow(b, 256)) {
            return BAD;
        }
        Text t = textOf(text);
        if (t.size >= t.room) {
            return FULL;
        }
        t.add(b);
        takeTextAnew(text);
        return t.size;
    }

    public int wipe(int text) {
        if (!isBelow(text, 2)) {
            return BAD;
        }
        Text t = textOf(text);
        int had = t.size;
        t.size = 0;
        takeTextAnew(text);
        return had;
    }

    public int undo(int text) {
        if (!isBelow(text, 2)) {
            return BAD;
        }
        Text t = textOf(text);
        if (t.size == 0) {
            return NOT;
        }
        t.size--;
        takeTextAnew(text);
        return t.size;
    }

    public int fault(int text) {
        if (!isBelow(text, 2)) {
            return BAD;
        }
        return text == 0 ? gone.fault : needs.fault;
    }

    public int gone(int one, int what) {
        if (!isBelow(one, gone.size) || !isBelow(what, 4)) {
            return BAD;
        }
        switch (what) {
            case 0: return gone.sort[one];
            case 1: return gone.x[one];
            case 2: return gone.y[one];
            default: return gone.far[one];
        }
    }

    public int need(int need, int what) {
        if (!isBelow(need, needs.size) || !isBelow(what, 3)) {
            return BAD;
        }
        switch (what) {
            case 0: return needs.who[need];
            case 1: return needs.night[need];
            default: return needs.much[need];
        }
    }

    public int event(int kind, int night, int furrow) {
        if (!isBelow(kind, 2) || !isBelow(night, NIGHTS) || !isBelow(furrow, SIDE)) {
            return BAD;
        }
        if (events.size >= MOST) {
            return FULL;
        }
        events.add(kind, night, furrow);
        markStale();
        return events.size;
    }

    public int back() {
        if (events.size == 0) {
            return NOT;
        }
        events.dropLast();
        markStale();
        return events.size;
    }

    public int read(int s) {
        if (!isBelow(s, SHEETS)) {
            return BAD;
        }
        Sheet sheet = sheets[s];
        if (sheet.form == LOST) {
            return find(NULL);
        }
        int took = 0;
        for (int i = 0; i + 2 < sheet.size; i += 3) {
            if (event(sheet.items[i], sheet.items[i + 1], sheet.items[i + 2]) < 0) {
                break;
            }
            took++;
        }
        return took;
    }

    // ---- nights

    public int at(int night, int one, int what) {
        if (!isBelow(night, NIGHTS) || !isBelow(one, gone.size) || !isBelow(what, 3)) {
            return BAD;
        }
        Course course = asTold();
        switch (what) {
            case 0: return course.isUp(night, one) ? 1 : 0;
            case 1: return course.wantedBehind(needs, night, one);
            default: return course.timesUpBy(night, one);
        }
    }

    public int field(int night, int x, int y) {
        if (!isBelow(night, NIGHTS) || !isBelow(x, SIDE) || !isBelow(y, SIDE)) {
            return BAD;
        }
        Course course = asTold();
        for (int one = 0; one < gone.size; one++) {
            if (gone.x[one] == x && gone.y[one] == y && course.isUp(night, one)) {
                return one;
            }
        }
        return NONE;
    }

    public int up(int night, int what) {
        if (!isBelow(night, NIGHTS) || !isBelow(what, 2)) {
            return BAD;
        }
        Course course = asTold();
        return what == 0 ? Integer.bitCount(course.standing[night]) : course.openBehind(needs, night);
    }

    public int met(int need) {
        if (!isBelow(need, needs.size)) {
            return BAD;
        }
        return asTold().met[need];
    }

    public int stood(int one) {
        if (!isBelow(one, gone.size)) {
            return BAD;
        }
        return asTold().nightsUp(one);
    }

    public int wrongly() {
        return asTold().wrong;
    }

    public int first(int what) {
        if (!isBelow(what, 2)) {
            return BAD;
        }
        Course course = asTold();
        if (course.came == 0) {
            return NONE;
        }
        return what == 0 ? course.cameNight[0] : course.cameOne[0];
    }

    public int gate() {
        Course course = asTold();
        int holder = NONE;
        int most = 0;
        for (int one = 0; one < gone.size; one++) {
            if (course.times[one] > most) {
                most = course.times[one];
                holder = one;
            }
        }
        return holder;
    }

    public int rest() {
        Course course = asTold();
        int bits = 0;
        for (int one = 0; one < gone.size; one++) {
            if (course.times[one] == 0) {
                bits |= 1 << one;
            }
        }
        return bits;
    }

    // ---- plans

    public int plough(int night, int what) {
        if (!isBelow(night, NIGHTS) || !isBelow(what, 2)) {
            return BAD;
        }
        int furrow = bestFurrow(night);
        return what == 0 ? furrow : metWithPlough(night, furrow);
    }

    public int lie(int one, int what) {
        if (!isBelow(one, gone.size) || !isBelow(what, 3)) {
            return BAD;
        }
        return tellCell(one, bestCell(one), what);
    }

    public int when(int furrow, int what) {
        if (!isBelow(furrow, SIDE) || !isBelow(what, 2)) {
            return BAD;
        }
        int night = bestNight(furrow);
        return what == 0 ? night : metWithPlough(night, furrow);
    }

    public int spare(int i) {
        if (i != NONE && !isBelow(i, 2)) {
            return BAD;
        }
        int bits = spareEvents();
        if (bits == NONE) {
            return NONE;
        }
        return i == NONE ? Integer.bitCount(bits) : placeOfBit(bits, i);
    }

    // ---- seen, chance, years

    public int seen(int night, int one, int up) {
        if (!isBelow(night, NIGHTS) || !isBelow(one, MOST) || !isBelow(up, 2)) {
            return BAD;
        }
        if (sightings.size >= MOST) {
            return FULL;
        }
        sightings.add(night, one, up);
        return sightings.size;
    }

    public int forget() {
        int had = sightings.size;
        sightings.size = 0;
        return had;
    }

    public int never() {
        int bits = 0;
        for (int e = 0; e < events.size; e++) {
            trial.run(gone, needs, events, ~(1 << e));
            if (sightings.fit(trial, gone.size)) {
                bits |= 1 << e;
            }
        }
        return bits;
    }

    public int was(int one, int what) {
        if (!isBelow(one, gone.size) || !isBelow(what, 2)) {
            return BAD;
        }
        return what == 0 ? fittingSorts(one) : fittingFars(one);
    }

    public int ask(int one) {
        if (!isBelow(one, gone.size)) {
            return BAD;
        }
        int kept = Integer.bitCount(fittingFars(one));
        int best = 0;
        int least = FARTHEST + 1;
        for (int night = 0; night < NIGHTS; night++) {
            int greatest = greatestAlike(night, kept);
            if (greatest < least) {
                least = greatest;
                best = night;
            }
        }
        return best;
    }

    public long chance(int c, int need, int what) {
        if (!isBelow(c, SIXTEENTHS + 1) || !isBelow(need, needs.size) || !isBelow(what, 2)) {
            return LEAST_LONG - BAD;
        }
        if (oddsAreStale) {
            odds.tally(gone, needs, events, trial);
            oddsAreStale = false;
        }
        return odds.tell(need, c, events.size, what);
    }

    public int years(int seed, int n, int what) {
        if (!isBelow(n, MOST + 1) || !isBelow(what, 2)) {
            return BAD;
        }
        drawEvents(seed, n);
        trial.run(gone, needs, drawn, EVERY_EVENT);
        return what == 0 ? trial.howManyMet(needs) : trial.wrong;
    }

    // ---- sheets

    public int sheet(int s, int form, int n) {
        if (!isBelow(s, SHEETS) || !isBelow(form, FORMS) || n > ITEMS) {
            return BAD;
        }
        if (n < 0) {
            return find(SIZE);
        }
        sheets[s].makeNew(form, n);
        return n;
    }

    public int lose(int s) {
        if (!isBelow(s, SHEETS)) {
            return BAD;
        }
        Sheet sheet = sheets[s];
        if (sheet.form == LOST) {
            return find(NULL);
        }
        int had = sheet.size;
        sheet.form = LOST;
        sheet.size = 0;
        return had;
    }

    public int put(int s, int form, int i, int v) {
        int refusal = refuseItem(s, form, i);
        if (refusal != 0) {
            return refusal;
        }
        sheets[s].setItem(i, v);
        return 1;
    }

    public int get(int s, int form, int i) {
        if (refuseItem(s, form, i) != 0) {
            return LEAST_INT;
        }
        return sheets[s].items[i];
    }

    public int copy(int s, int i, int t, int j, int n) {
        if (!isBelow(s, SHEETS) || !isBelow(t, SHEETS)) {
            return BAD;
        }
        Sheet from = sheets[s];
        Sheet to = sheets[t];
        if (from.form == LOST || to.form == LOST) {
            return find(NULL);
        }
        if (from.form != to.form) {
            return find(STORE);
        }
        if (!from.hasSpan(i, n) || !to.hasSpan(j, n)) {
            return find(INDEX);
        }
        System.arraycopy(from.items, i, to.items, j, n);
        return 1;
    }

    public int write(int one, int s) {
        if (!isBelow(one, gone.size) || !isBelow(s, SHEETS)) {
            return BAD;
        }
        Sheet sheet = sheets[s];
        if (sheet.form == LOST) {
            return find(NULL);
        }
        Course course = asTold();
        int n = Math.min(sheet.size, NIGHTS);
        for (int night = 0; night < n; night++) {
            sheet.setItem(night, course.wantedBehind(needs, night, one));
        }
        return n;
    }

    public int count(int what) {
        switch (what) {
            case 0: return gone.size;
            case 1: return needs.size;
            case 2: return goneText.size;
            case 3: return needText.size;
            case 4: return events.size;
            case 5: return asTold().howManyMet(needs);
            case 6: return asTold().wrong;
            case 7: return sightings.size;
            case 8: return latestFinding;
            default: return BAD;
        }
    }

    public long digest() {
        long h = 17;
        for (int what = 0; what < 8; what++) {
            h = mix(h, count(what));
        }
        h = mix(mix(h, fault(0)), fault(1));
        for (int need = 0; need < needs.size; need++) {
            h = mixNeed(h, need);
        }
        for (int one = 0; one < gone.size; one++) {
            h = mixOne(h, one);
        }
        for (int night = 0; night < NIGHTS; night++) {
            h = mix(mix(h, up(night, 0)), up(night, 1));
        }
        for (int furrow = 0; furrow < SIDE; furrow++) {
            int night = bestNight(furrow);
            h = mix(mix(h, night), metWithPlough(night, furrow));
        }
        h = mix(mix(h, first(0)), first(1));
        h = mix(mix(h, gate()), rest());
        h = mix(mix(h, plough(8, 0)), plough(8, 1));
        h = mix(mix(h, spare(NONE)), spare(0));
        h = mix(h, never());
        return mix(mix(h, years(7, 6, 0)), years(7, 6, 1));
    }

    // ---- behind the face

    private static boolean isBelow(int number, int bound) {
        return number >= 0 && number < bound;
    }

    private int find(int finding) {
        latestFinding = finding;
        return -10 - finding;
    }

    private Text textOf(int text) {
        return text == 0 ? goneText : needText;
    }

    private void takeTextAnew(int text) {
        if (text == 0) {
            gone.take(goneText);
        } else {
            needs.take(needText);
        }
        markStale();
    }

    private void markStale() {
        toldIsStale = true;
        oddsAreStale = true;
    }

    private Course asTold() {
        if (toldIsStale) {
            told.run(gone, needs, events, EVERY_EVENT);
            toldIsStale = false;
        }
        return told;
    }

    private int metWithPlough(int night, int furrow) {
        // Events has a row more than may be told, so there is room whatever was told.
        events.add(PLOUGH, night, furrow);
        trial.run(gone, needs, events, EVERY_EVENT);
        events.dropLast();
        return trial.howManyMet(needs);
    }

    private int bestFurrow(int night) {
        int best = 0;
        int most = -1;
        for (int furrow = 0; furrow < SIDE; furrow++) {
            int number = metWithPlough(night, furrow);
            if (number > most) {
                most = number;
                best = furrow;
            }
        }
        return best;
    }

    private int bestNight(int furrow) {
        int best = 0;
        int most = -1;
        for (int night = 0; night < NIGHTS; night++) {
            int number = metWithPlough(night, furrow);
            if (number > most) {
                most = number;
                best = night;
            }
        }
        return best;
    }

    /** Cells are numbered by x, then y, so that the least number is the first of like ones. */
    private int bestCell(int one) {
        int best = NONE;
        int fewest = NIGHTS + 1;
        for (int cell = 0; cell < SIDE * SIDE; cell++) {
            if (!gone.liesAnother(cell / SIDE, cell % SIDE, one, gone.size)) {
                int nights = nightsUpFrom(one, cell);
                if (nights != NONE && nights < fewest) {
                    fewest = nights;
                    best = cell;
                }
            }
        }
        return best;
    }

    private int nightsUpFrom(int one, int cell) {
        int ownX = gone.x[one];
        int ownY = gone.y[one];
        gone.x[one] = cell / SIDE;
        gone.y[one] = cell % SIDE;
        trial.run(gone, needs, events, EVERY_EVENT);
        gone.x[one] = ownX;
        gone.y[one] = ownY;
        return trial.times[one] == 0 ? NONE : trial.nightsUp(one);
    }

    private int tellCell(int one, int cell, int what) {
        if (cell == NONE) {
            return NONE;
        }
        switch (what) {
            case 0: return cell / SIDE;
            case 1: return cell % SIDE;
            default: return nightsUpFrom(one, cell);
        }
    }

    private int spareEvents() {
        if (isRightWithout(0)) {
            return 0;
        }
        for (int e = 0; e < events.size; e++) {
            if (isRightWithout(1 << e)) {
                return 1 << e;
            }
        }
        for (int e = 0; e < events.size; e++) {
            for (int later = e + 1; later < events.size; later++) {
                int bits = 1 << e | 1 << later;
                if (isRightWithout(bits)) {
                    return bits;
                }
            }
        }
        return NONE;
    }

    /** The place of the i-th bit that is set; NONE where there is none. */
    private static int placeOfBit(int bits, int i) {
        int passed = 0;
        for (int e = 0; e < MOST; e++) {
            if ((bits >> e & 1) != 0) {
                if (passed == i) {
                    return e;
                }
                passed++;
            }
        }
        return NONE;
    }

    private boolean isRightWithout(int bits) {
        trial.run(gone, needs, events, ~bits);
        return trial.wrong == 0;
    }

    private int fittingSorts(int one) {
        int own = gone.sort[one];
        int bits = 0;
        for (int sort = 0; sort < SORTS; sort++) {
            gone.sort[one] = sort;
            trial.run(gone, needs, events, EVERY_EVENT);
            if (sightings.fit(trial, gone.size)) {
                bits |= 1 << sort;
            }
        }
        gone.sort[one] = own;
        return bits;
    }

    /** Answers one's fitting fars as bits, and notes who is up behind each night by each of them. */
    private int fittingFars(int one) {
        int own = gone.far[one];
        int bits = 0;
        int kept = 0;
        for (int far = 1; far <= FARTHEST; far++) {
            gone.far[one] = far;
            trial.run(gone, needs, events, EVERY_EVENT);
            if (sightings.fit(trial, gone.size)) {
                bits |= 1 << far;
                System.arraycopy(trial.standing, 0, looks, kept * NIGHTS, NIGHTS);
                kept++;
            }
        }
        gone.far[one] = own;
        return bits;
    }

    private int greatestAlike(int night, int kept) {
        int greatest = 0;
        for (int a = 0; a < kept; a++) {
            int alike = 0;
            for (int b = 0; b < kept; b++) {
                if (looks[a * NIGHTS + night] == looks[b * NIGHTS + night]) {
                    alike++;
                }
            }
            greatest = Math.max(greatest, alike);
        }
        return greatest;
    }

    private void drawEvents(int seed, int n) {
        drawn.size = 0;
        int s = seed;
        for (int k = 0; k < n; k++) {
            s = nextSeed(s);
            int kind = upperBits(s) % 2;
            s = nextSeed(s);
            int night = upperBits(s) % NIGHTS;
            s = nextSeed(s);
            int furrow = upperBits(s) % SIDE;
            drawn.add(kind, night, furrow);
        }
    }

    private static int nextSeed(int seed) {
        return 1103515245 * seed + 12345;
    }

    private static int upperBits(int seed) {
        return seed >>> 16;
    }

    /** What put() and get() refuse alike; 0 where nothing is to be refused. */
    private int refuseItem(int s, int form, int i) {
        if (!isBelow(s, SHEETS) || !isBelow(form, FORMS)) {
            return BAD;
        }
        Sheet sheet = sheets[s];
        if (sheet.form == LOST) {
            return find(NULL);
        }
        if (sheet.form != form) {
            return find(CAST);
        }
        return isBelow(i, sheet.size) ? 0 : find(INDEX);
    }

    private static long mix(long h, long v) {
        return 31 * h + v;
    }

    private long mixNeed(long h, int need) {
        long mixed = h;
        for (int what = 0; what < 3; what++) {
            mixed = mix(mixed, need(need, what));
        }
        mixed = mix(mixed, met(need));
        return mix(mix(mixed, chance(5, need, 0)), chance(5, need, 1));
    }

    private long mixOne(long h, int one) {
        long mixed = h;
        for (int what = 0; what < 4; what++) {
            mixed = mix(mixed, gone(one, what));
        }
        // Nights 0, 7, 15 and 23.
        for (int eighth = 0; eighth <= 3; eighth++) {
            int night = Math.max(0, 8 * eighth - 1);
            for (int what = 0; what < 3; what++) {
                mixed = mix(mixed, at(night, one, what));
            }
        }
        mixed = mix(mixed, stood(one));
        int cell = bestCell(one);
        for (int what = 0; what < 3; what++) {
            mixed = mix(mixed, tellCell(one, cell, what));
        }
        mixed = mix(mix(mixed, was(one, 0)), was(one, 1));
        return mix(mixed, ask(one));
    }

    /** The bytes of a text as they were typed. */
    private static final class Text {
        final int[] bytes = new int[GONE_BYTES];
        final int room;
        int size = 0;

        /** The room is GONE_BYTES at most. */
        Text(int room) {
            this.room = Math.min(room, GONE_BYTES);
        }

        void add(int b) {
            if (size < room) {
                bytes[size] = b;
                size++;
            }
        }
    }

    /** Things that a text tells one by one, with a byte between them; none where it has a fault. */
    private abstract static class Listing {
        // The bytes that tell a thing, and the one that parts it from the next.
        private final int step;
        int size = 0;
        int fault = NONE;

        /** The step is 1 at least. */
        Listing(int step) {
            this.step = Math.max(1, step);
        }

        final void take(Text text) {
            fault = NONE;
            for (int p = 0; p < text.size && fault == NONE; p++) {
                int thing = p / step;
                if (thing >= MOST || !takesByte(thing, p % step, text.bytes[p])) {
                    fault = p;
                }
            }
            boolean isEnded = text.size == 0 || text.size % step == step - 1;
            if (fault == NONE && !isEnded) {
                fault = text.size;
            }
            size = fault == NONE ? (text.size + 1) / step : 0;
        }

        /** Whether a byte can go on at a place of the thing; what it tells is kept. */
        abstract boolean takesByte(int thing, int place, int b);
    }

    private static final class Gone extends Listing {
        final int[] sort = new int[MOST];
        final int[] x = new int[MOST];
        final int[] y = new int[MOST];
        final int[] far = new int[MOST];

        Gone() {
            super(5);
        }

        boolean takesByte(int one, int place, int b) {
            int figure = b - '0';
            switch (place) {
                case 0:
                    sort[one] = sortOf(b);
                    return sort[one] != NONE;
                case 1:
                    x[one] = figure;
                    return isBelow(figure, SIDE);
                case 2:
                    y[one] = figure;
                    return isBelow(figure, SIDE) && !liesAnother(x[one], figure, one, one);
                case 3:
                    far[one] = figure;
                    return figure >= 1 && figure <= FARTHEST;
                default:
                    return b == ';';
            }
        }

        private static int sortOf(int b) {
            if (b == 'd') {
                return DEAD;
            }
            if (b == 'c') {
                return ABROAD;
            }
            return b == 'r' ? ROMAN : NONE;
        }

        /** Whether one of the first n, other than this one, lies in a cell. */
        boolean liesAnother(int cellX, int cellY, int one, int n) {
            for (int other = 0; other < n; other++) {
                if (other != one && x[other] == cellX && y[other] == cellY) {
                    return true;
                }
            }
            return false;
        }
    }

    private static final class Needs extends Listing {
        static final int MOST_WEIGHT = 9;

        final int[] who = new int[MOST];
        final int[] night = new int[MOST];
        final int[] much = new int[MOST];

        Needs() {
            super(4);
        }

        boolean takesByte(int need, int place, int b) {
            switch (place) {
                case 0:
                    who[need] = b - '0';
                    return isBelow(b - '0', MOST);
                case 1:
                    night[need] = b - 'a';
                    return isBelow(b - 'a', NIGHTS);
                case 2:
                    much[need] = b - '0';
                    return b >= '1' && b <= '9';
                default:
                    return b == ';';
            }
        }

        /** How much an open need weighs on a night. */
        int weightOn(int need, int onNight) {
            int weight = much[need] + onNight - night[need];
            return weight < MOST_WEIGHT ? weight : MOST_WEIGHT;
        }
    }

    /** Ploughs and harrows: by their numbers, and in the order in which they are done. */
    private static final class Events {
        final int[] kind = new int[MOST + 1];
        final int[] night = new int[MOST + 1];
        final int[] furrow = new int[MOST + 1];
        final int[] order = new int[MOST + 1];
        int size = 0;

        void add(int newKind, int newNight, int newFurrow) {
            if (size > MOST) {
                return;
            }
            kind[size] = newKind;
            night[size] = newNight;
            furrow[size] = newFurrow;
            int place = size;
            for (int k = size - 1; k >= 0 && night[order[k]] > newNight; k--) {
                order[k + 1] = order[k];
                place = k;
            }
            order[place] = size;
            size++;
        }

        void dropLast() {
            if (size == 0) {
                return;
            }
            int kept = 0;
            for (int k = 0; k < size; k++) {
                if (order[k] != size - 1) {
                    order[kept] = order[k];
                    kept++;
                }
            }
            size--;
        }
    }

    /** What the nights bring, told from the first to the last of them. */
    private static final class Course {
        final int[] met = new int[MOST];
        final int[] wanted = new int[MOST];
        final int[] times = new int[MOST];
        final int[] standing = new int[NIGHTS];
        final int[] cameNight = new int[MOST + 1];
        final int[] cameOne = new int[MOST + 1];
        int came = 0;
        int wrong = 0;
        private int upNow = 0;
        private int nightsOver = 0;

        /** Does the events that are in a set of bits. */
        void run(Gone gone, Needs needs, Events events, int set) {
            startAnew();
            for (int k = 0; k < events.size; k++) {
                int e = events.order[k];
                if ((set >> e & 1) != 0) {
                    endNightsTo(events.night[e]);
                    if (events.kind[e] == HARROW) {
                        layDown(gone, events.furrow[e]);
                    } else {
                        weighNeeds(needs, events.night[e]);
                        bringUp(strongestIn(gone, events.furrow[e]), needs, events.night[e]);
                    }
                }
            }
            endNightsTo(NIGHTS);
        }

        private void startAnew() {
            for (int k = 0; k < MOST; k++) {
                met[k] = NONE;
                times[k] = 0;
            }
            came = 0;
            wrong = 0;
            upNow = 0;
            nightsOver = 0;
        }

        private void endNightsTo(int night) {
            for (int n = nightsOver; n < night; n++) {
                standing[n] = upNow;
            }
            nightsOver = night;
        }

        private void layDown(Gone gone, int furrow) {
            for (int one = 0; one < gone.size; one++) {
                if (gone.y[one] == furrow) {
                    upNow &= ~(1 << one);
                }
            }
        }

        private void weighNeeds(Needs needs, int night) {
            for (int one = 0; one < MOST; one++) {
                wanted[one] = 0;
            }
            for (int k = 0; k < needs.size; k++) {
                if (met[k] == NONE && needs.night[k] <= night) {
                    wanted[needs.who[k]] += needs.weightOn(k, night);
                }
            }
        }

        private int strongestIn(Gone gone, int furrow) {
            int best = NONE;
            int most = 0;
            for (int one = 0; one < gone.size; one++) {
                if (gone.y[one] == furrow && (upNow >> one & 1) == 0) {
                    int pull = pullOf(gone, one);
                    boolean isMore = best == NONE ? pull >= 0
                        : pull > most || (pull == most && gone.x[one] < gone.x[best]);
                    if (isMore) {
                        most = pull;
                        best = one;
                    }
                }
            }
            return best;
        }

        private int pullOf(Gone gone, int one) {
            switch (gone.sort[one]) {
                case DEAD: return wanted[one] - gone.far[one] / 2;
                case ABROAD: return wanted[one] - gone.far[one];
                default: return times[one];
            }
        }

        private void bringUp(int one, Needs needs, int night) {
            if (one == NONE || came >= cameOne.length) {
                return;
            }
            upNow |= 1 << one;
            times[one]++;
            cameNight[came] = night;
            cameOne[came] = one;
            came++;
            if (wanted[one] == 0) {
                wrong++;
            }
            for (int k = 0; k < needs.size; k++) {
                if (needs.who[k] == one && met[k] == NONE && needs.night[k] <= night) {
                    met[k] = night;
                }
            }
        }

        boolean isUp(int night, int one) {
            return (standing[night] >> one & 1) != 0;
        }

        int nightsUp(int one) {
            int nights = 0;
            for (int night = 0; night < NIGHTS; night++) {
                if (isUp(night, one)) {
                    nights++;
                }
            }
            return nights;
        }

        int timesUpBy(int night, int one) {
            int number = 0;
            for (int k = 0; k < came; k++) {
                if (cameOne[k] == one && cameNight[k] <= night) {
                    number++;
                }
            }
            return number;
        }

        private boolean isOpenBehind(Needs needs, int need, int night) {
            return needs.night[need] <= night && (met[need] == NONE || met[need] > night);
        }

        int wantedBehind(Needs needs, int night, int one) {
            int sum = 0;
            for (int k = 0; k < needs.size; k++) {
                if (needs.who[k] == one && isOpenBehind(needs, k, night)) {
                    sum += needs.weightOn(k, night);
                }
            }
            return sum;
        }

        int openBehind(Needs needs, int night) {
            int number = 0;
            for (int k = 0; k < needs.size; k++) {
                if (isOpenBehind(needs, k, night)) {
                    number++;
                }
            }
            return number;
        }

        int howManyMet(Needs needs) {
            int number = 0;
            for (int k = 0; k < needs.size; k++) {
                if (met[k] != NONE) {
                    number++;
                }
            }
            return number;
        }
    }

    /** What was seen: who was up, or not, behind a night. */
    private static final class Sightings {
        final int[] night = new int[MOST];
        final int[] one = new int[MOST];
        final int[] isUp = new int[MOST];
        int size = 0;

        void add(int newNight, int newOne, int newIsUp) {
            if (size < MOST) {
                night[size] = newNight;
                one[size] = newOne;
                isUp[size] = newIsUp;
                size++;
            }
        }

        /** Whether all that was seen comes out so, where the first n of the gone are there. */
        boolean fit(Course course, int n) {
            for (int k = 0; k < size; k++) {
                boolean comesOut = one[k] < n && course.isUp(night[k], one[k]) == (isUp[k] == 1);
                if (!comesOut) {
                    return false;
                }
            }
            return true;
        }
    }

    /** By how many sets of so many events each need is met. */
    private static final class Odds {
        static final int SIZES = MOST + 1;

        final int[] sets = new int[MOST * SIZES];

        void tally(Gone gone, Needs needs, Events events, Course trial) {
            for (int k = 0; k < MOST * SIZES; k++) {
                sets[k] = 0;
            }
            int all = 1 << Math.min(events.size, MOST);
            for (int set = 0; set < all; set++) {
                trial.run(gone, needs, events, set);
                int number = Integer.bitCount(set);
                for (int need = 0; need < needs.size; need++) {
                    if (trial.met[need] != NONE) {
                        sets[need * SIZES + number]++;
                    }
                }
            }
        }

        /** The chance of a need, above (what 0) or below, where each of n events is by c sixteenths. */
        long tell(int need, int c, int n, int what) {
            long above = 0;
            for (int number = 0; number <= n && number < SIZES; number++) {
                long weight = power(c, number) * power(SIXTEENTHS - c, n - number);
                above += sets[need * SIZES + number] * weight;
            }
            long below = power(SIXTEENTHS, n);
            // What is below is a power of 2: halves alone can be shared.
            for (int k = 0; k < 4 * MOST && below > 1 && above % 2 == 0; k++) {
                above /= 2;
                below /= 2;
            }
            return what == 0 ? above : below;
        }

        private static long power(int base, int exponent) {
            long product = 1;
            for (int k = 0; k < exponent; k++) {
                product *= base;
            }
            return product;
        }
    }

    /** A row of numbers of a form, or lost. */
    private static final class Sheet {
        final int[] items = new int[ITEMS];
        int form = LOST;
        int size = 0;

        /** The row has n items, 0 to ITEMS. */
        void makeNew(int newForm, int n) {
            form = newForm;
            size = n;
            for (int i = 0; i < ITEMS; i++) {
                items[i] = 0;
            }
        }

        void setItem(int i, int v) {
            if (isBelow(i, size)) {
                items[i] = narrowed(v);
            }
        }

        private int narrowed(int v) {
            switch (form) {
                case 0: return (byte) v;
                case 1: return (short) v;
                default: return v;
            }
        }

        boolean hasSpan(int from, int n) {
            return from >= 0 && n >= 0 && n <= size && from <= size - n;
        }
    }
}
