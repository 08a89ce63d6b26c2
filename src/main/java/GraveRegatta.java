/**
 * The regatta of graves: lakes told as texts, a graveyard on a raft of peat, graves, wreaths that are sails,
 * mourners by weight, tears and kin, rocks; days, nights, fogs and laws told as texts, and what follows of them.
 *
 * <p>All rows are made with the object and used again: a call makes no object and no array.
 */
public final class GraveRegatta {
    /** There is none. */
    public static final int NONE = -1;

    /** There is none such, where NONE is an answer of its own. */
    private static final int MISSING = -2;
    /** There is none such, where small numbers below 0 are answers too. */
    private static final int NO_SUM = -1000000;

    private static final int LAKES = 0;
    private static final int DAYS = 1;
    private static final int NIGHTS = 2;
    private static final int FOGS = 3;
    private static final int LAWS = 4;
    private static final int SORTS = 5;
    private static final int OF_EACH_SORT = 2;
    private static final int IMAGES = 3;

    /** How many HOURS WAKE and HOLD look ahead, and MEET. */
    private static final int FORESEEN = 60;
    private static final int MEETING = 40;

    private static final int MOST_MOURNERS = 5;
    private static final int MOST_PLACES = 16;
    /** Of cells along either axis of a lake. */
    private static final int MOST_CELLS = 12;
    /** Above all that hours, TEARS, LISTS or WATER can come to. */
    private static final int FAR = 1000000;

    private final Told told = new Told();
    private final Told[] images = new Told[IMAGES];
    private final boolean[] isKept = new boolean[IMAGES];
    private final Reader reader = new Reader();
    private final Raft raft = new Raft(told.lakes[0]);
    private final Raft second = new Raft(told.lakes[0]);
    private final Course course = new Course(told.lakes[0]);
    private final Quarrel quarrel = new Quarrel();
    private final Watch watch = new Watch();
    private final Search search = new Search();
    private final Pump pump = new Pump();

    public GraveRegatta() {
        for (int k = 0; k < IMAGES; k++) {
            images[k] = new Told();
        }
    }

    // ---- the tape and what is told ----

    public int feed(int a, int b, int c, int d, int e) {
        if (told.length + 20 > Told.TAPE) {
            return NONE;
        }
        told.append(a);
        told.append(b);
        told.append(c);
        told.append(d);
        told.append(e);
        return told.length;
    }

    public int end(int n) {
        if (n < 0 || n > told.length) {
            return NONE;
        }
        told.length = n;
        return n;
    }

    public int text(int sort, int at) {
        int slot = told.slotFor(sort, at);
        if (slot == NONE) {
            told.length = 0;
            told.fault = 0;
            told.place = NONE;
            return MISSING;
        }
        reader.read(told.tape, told.length, sort);
        told.length = 0;
        told.fault = reader.fault;
        told.place = reader.place;
        if (reader.fault != 0) {
            return NONE;
        }
        told.take(sort, slot, reader);
        return slot;
    }

    public int fault(int what) {
        if (what == 0) {
            return told.fault;
        }
        return what == 1 ? told.place : NONE;
    }

    public int lake(int lake, int what) {
        Lake waters = told.lakeAt(lake);
        return waters == null ? NONE : waters.answer(what);
    }

    public int deed(int day, int k, int what) {
        return rowOf(told.pageAt(DAYS, day), k, what, 2);
    }

    public int sight(int night, int k, int what) {
        return rowOf(told.pageAt(NIGHTS, night), k, what, 1);
    }

    public int dead(int fog, int k) {
        return rowOf(told.pageAt(FOGS, fog), k, 0, 0);
    }

    public int term(int law, int k, int what) {
        return rowOf(told.pageAt(LAWS, law), k, what, 2);
    }

    /** How many rows a page has (k NONE, what 0), or the what-th number of its row k. */
    private static int rowOf(Rows page, int k, int what, int lastWhat) {
        if (page == null || what < 0 || what > lastWhat) {
            return MISSING;
        }
        if (k == NONE) {
            return what == 0 ? page.size : MISSING;
        }
        return page.has(k) ? page.number(k, what) : MISSING;
    }

    public int count(int sort) {
        return sort >= 0 && sort < SORTS ? told.counts[sort] : MISSING;
    }

    public boolean image(int k) {
        if (k < 0 || k >= IMAGES) {
            return false;
        }
        images[k].takeFrom(told);
        isKept[k] = true;
        return true;
    }

    public boolean again(int k) {
        if (k < 0 || k >= IMAGES || !isKept[k]) {
            return false;
        }
        told.takeFrom(images[k]);
        return true;
    }

    // ---- days ----

    /** Puts the raft where it is behind the first n DEEDS; false if there is no such STATE. */
    private boolean sailTo(int lake, int day, int n) {
        Lake waters = told.lakeAt(lake);
        Rows deeds = told.pageAt(DAYS, day);
        if (waters == null || deeds == null || n < 0 || n > deeds.size) {
            return false;
        }
        raft.launch(waters, waters);
        for (int k = 0; k < n; k++) {
            if (!raft.obeys(deeds.number(k, 0), deeds.number(k, 1), deeds.number(k, 2))) {
                return false;
            }
        }
        return true;
    }

    public int stop(int lake, int day) {
        Lake waters = told.lakeAt(lake);
        Rows deeds = told.pageAt(DAYS, day);
        if (waters == null || deeds == null) {
            return NONE;
        }
        raft.launch(waters, waters);
        int done = 0;
        while (done < deeds.size
                && raft.obeys(deeds.number(done, 0), deeds.number(done, 1), deeds.number(done, 2))) {
            done++;
        }
        return done;
    }

    public int state(int lake, int day, int n, int what) {
        return sailTo(lake, day, n) ? raft.answer(what) : MISSING;
    }

    public int list(int lake, int day, int n, int axis) {
        if (axis < 0 || axis > 1 || !sailTo(lake, day, n)) {
            return NO_SUM;
        }
        return raft.listAlong(axis);
    }

    public int drift(int lake, int day, int n, int axis) {
        if (axis < 0 || axis > 1 || !sailTo(lake, day, n)) {
            return MISSING;
        }
        return raft.driftAlong(axis);
    }

    public int goes(int lake, int day, int n, int what) {
        if (what < 0 || what > 13 || what > 1 && what < 10 || !sailTo(lake, day, n)) {
            return MISSING;
        }
        if (what == 0) {
            return raft.hoursTillAground(FORESEEN);
        }
        return what == 1 ? raft.hoursTillSunk(FORESEEN) : raft.forceToTurn(what - 10);
    }

    public int owed(int lake, int day, int n, int law) {
        Rows terms = told.pageAt(LAWS, law);
        if (terms == null || !sailTo(lake, day, n)) {
            return NONE;
        }
        return raft.debtBy(terms);
    }

    // ---- whom to send ----

    public int cost(int lake, int x, int y) {
        Lake waters = told.lakeAt(lake);
        if (waters == null || x < -1 || x > 1 || y < -1 || y > 1) {
            return NONE;
        }
        course.weigh(waters);
        return course.priceOf(x, y);
    }

    public int reach(int lake, int n, int x, int y) {
        Lake waters = told.lakeAt(lake);
        if (waters == null || n < 0 || n > 12) {
            return NONE;
        }
        boolean isCount = x == NONE && y == NONE;
        if (!isCount && !waters.hasCell(x, y)) {
            return NONE;
        }
        course.weigh(waters);
        course.chart(waters);
        course.spread(waters, n);
        return isCount ? course.cellsReached() : course.isReached(x, y) ? 1 : 0;
    }

    public int sends(int lake, int what) {
        Lake waters = told.lakeAt(lake);
        if (waters == null || what < 0 || what > 2) {
            return NONE;
        }
        course.weigh(waters);
        course.chart(waters);
        if (what == 2) {
            return course.idleMourners(waters);
        }
        return course.leastToTouch(waters, what == 0);
    }

    public int thrift(int lake, int x, int y) {
        Lake waters = told.lakeAt(lake);
        if (waters == null || !waters.hasCell(x, y)) {
            return NONE;
        }
        course.weigh(waters);
        course.chart(waters);
        return course.leastToLie(waters, x, y);
    }

    public int pull(int lake, int n, int k) {
        Lake waters = told.lakeAt(lake);
        if (waters == null || n < 1 || n > 12 || k < NONE) {
            return MISSING;
        }
        quarrel.hear(waters, n, raft);
        return k == NONE ? quarrel.atRest() : quarrel.restAt(k);
    }

    public int gain(int lake, int n, int couple, int kin) {
        Lake waters = told.lakeAt(lake);
        if (waters == null || n < 1 || n > 12 || couple < 0 || couple > 8 || kin < 0 || kin > 1) {
            return NO_SUM;
        }
        quarrel.hear(waters, n, raft);
        return quarrel.gainOf(couple, kin);
    }

    // ---- nights, fogs, leaks ----

    public int stood(int lake, int night, int what) {
        Lake waters = told.lakeAt(lake);
        Rows sights = told.pageAt(NIGHTS, night);
        if (waters == null || sights == null || what < 0 || what > 3) {
            return MISSING;
        }
        watch.look(waters, sights, raft);
        switch (what) {
            case 0:
                return watch.fits;
            case 1:
                return watch.aboard;
            case 2:
                return watch.fewest;
            default:
                return watch.longest;
        }
    }

    public int corner(int lake, int night, int mourner, int place) {
        Lake waters = told.lakeAt(lake);
        Rows sights = told.pageAt(NIGHTS, night);
        if (waters == null || sights == null || !waters.mourners.has(mourner)) {
            return NONE;
        }
        watch.look(waters, sights, raft);
        return watch.waysAt(mourner, place);
    }

    public int lies(int fog, int what) {
        Rows dead = told.pageAt(FOGS, fog);
        if (dead == null || what < 0) {
            return MISSING;
        }
        if (what == 0) {
            return search.ways(dead);
        }
        if (what == 1) {
            return search.dig(dead);
        }
        if (what >= 10 && dead.has(what - 10)) {
            return search.sureGrave(dead, what - 10);
        }
        return what >= 20 && dead.has(what - 20) ? search.graves(dead, what - 20) : MISSING;
    }

    public int bail(int lake, int n, int k) {
        Lake waters = told.lakeAt(lake);
        if (waters == null || waters.leaks.size == 0 || n < 1 || n > 8 || k < NONE || k >= n) {
            return NONE;
        }
        pump.plan(waters.leaks, n);
        return k == NONE ? pump.best : pump.leakBailed(k);
    }

    // ---- two rafts, winds by a seed, trim ----

    public int meet(int lake, int other, boolean beside) {
        Lake waters = told.lakeAt(lake);
        Lake guest = told.lakeAt(other);
        if (waters == null || guest == null) {
            return NONE;
        }
        raft.launch(waters, waters);
        second.launch(guest, waters);
        if (!waters.surrounds(guest, second.x, second.y)) {
            return NONE;
        }
        for (int hour = 0; hour <= MEETING; hour++) {
            if (raft.isBy(second, beside)) {
                return hour;
            }
            raft.floatOn();
            second.floatOn();
        }
        return NONE;
    }

    public int drawn(int lake, int seed, int n, int what) {
        Lake waters = told.lakeAt(lake);
        if (waters == null || n < 1 || n > 40 || what < 0 || what > 4) {
            return MISSING;
        }
        raft.launch(waters, waters);
        raft.sailBySeed(seed, n);
        switch (what) {
            case 0:
                return raft.x;
            case 1:
                return raft.y;
            case 2:
                return raft.touched;
            case 3:
                return raft.aground;
            default:
                return raft.isSunk ? 1 : 0;
        }
    }

    public int trim(int lake, int what) {
        Lake waters = told.lakeAt(lake);
        if (waters == null) {
            return NONE;
        }
        if (what == 0 || what == 1) {
            return waters.heaviestLine(1 - what);
        }
        if (what == 2) {
            return waters.keel();
        }
        return what >= 10 && waters.mourners.has(what - 10) ? waters.trimOf(what - 10) : NONE;
    }

    /** Whether a set (bits) has a number, 0 or more, in it. */
    private static boolean isIn(int bits, int number) {
        return (bits >> number & 1) == 1;
    }

    // ---- what is told ----

    /** Rows of up to three numbers each, as many as may be told. */
    private static final class Rows {
        final int most;
        final int[] numbers;
        int size;

        Rows(int most) {
            this.most = Math.max(0, most);
            this.numbers = new int[this.most * 3];
        }

        boolean has(int row) {
            return row >= 0 && row < size;
        }

        /** A row's number; NONE if there is none such. */
        int number(int row, int column) {
            return row >= 0 && row < size && column >= 0 && column < 3 ? numbers[row * 3 + column] : NONE;
        }

        /** False, and nothing is added, if there are as many as may be. */
        boolean add(int a, int b, int c) {
            if (size >= most) {
                return false;
            }
            numbers[size * 3] = a;
            numbers[size * 3 + 1] = b;
            numbers[size * 3 + 2] = c;
            size++;
            return true;
        }

        void takeFrom(Rows other) {
            size = Math.min(most, other.size);
            System.arraycopy(other.numbers, 0, numbers, 0, size * 3);
        }
    }

    /** A LAKE as told: what its raft is like, and what there is on the raft and in the water. */
    private static final class Lake {
        static final int WIDTH = 0;
        static final int HEIGHT = 1;
        static final int LONG = 2;
        static final int BROAD = 3;
        static final int X = 4;
        static final int Y = 5;
        static final int STIFF = 6;
        static final int DRAG = 7;
        static final int FLOAT = 8;
        static final int BROTHERS = 9;
        static final int BASICS = 11;
        private static final int[] AT_FIRST = {8, 8, 3, 2, 0, 0, 5, 4, 40, 1, 3};

        final int[] basics = new int[BASICS];
        final Rows rocks = new Rows(20);
        final Rows graves = new Rows(12);
        final Rows wreaths = new Rows(6);
        final Rows mourners = new Rows(MOST_MOURNERS);
        final Rows leaks = new Rows(4);

        /** What follows of all that, as settle() has it: it is asked for every hour. */
        private int columns;
        private int rows;
        private int sizes;
        /** How far each PLACE lies from the raft's middle, in halves: by x, then by y. */
        private final int[] arms = new int[MOST_PLACES * 2];
        /** LIST of the GRAVES alone, of x and of y. */
        private final int[] lists = new int[2];
        /** The rocks of each row of cells, as bits. */
        private final int[] rockBits = new int[MOST_CELLS];

        Lake() {
            forget();
            settle();
        }

        void forget() {
            System.arraycopy(AT_FIRST, 0, basics, 0, BASICS);
            rocks.size = 0;
            graves.size = 0;
            wreaths.size = 0;
            mourners.size = 0;
            leaks.size = 0;
        }

        void takeFrom(Lake other) {
            System.arraycopy(other.basics, 0, basics, 0, BASICS);
            rocks.takeFrom(other.rocks);
            graves.takeFrom(other.graves);
            wreaths.takeFrom(other.wreaths);
            mourners.takeFrom(other.mourners);
            leaks.takeFrom(other.leaks);
            settle();
        }

        /** Works out what follows of the text. */
        void settle() {
            columns = Math.max(1, basics[LONG]);
            rows = Math.max(1, basics[BROAD]);
            for (int place = 0; place < MOST_PLACES; place++) {
                arms[place] = 2 * (place % columns) + 1 - columns;
                arms[MOST_PLACES + place] = 2 * (place / columns) + 1 - rows;
            }
            lists[0] = 0;
            lists[1] = 0;
            for (int k = 0; k < graves.size; k++) {
                lists[0] += graves.number(k, 1) * arm(graves.number(k, 0), 0);
                lists[1] += graves.number(k, 1) * arm(graves.number(k, 0), 1);
            }
            sizes = 0;
            for (int k = 0; k < wreaths.size; k++) {
                sizes += wreaths.number(k, 0);
            }
            for (int y = 0; y < MOST_CELLS; y++) {
                rockBits[y] = 0;
            }
            for (int k = 0; k < rocks.size; k++) {
                int y = rocks.number(k, 1);
                if (y >= 0 && y < MOST_CELLS) {
                    rockBits[y] |= 1 << rocks.number(k, 0);
                }
            }
        }

        /** The rows that lake() counts by this number; null if there are none such. */
        Rows rowsOf(int what) {
            switch (what) {
                case 11:
                    return rocks;
                case 12:
                    return graves;
                case 13:
                    return wreaths;
                case 14:
                    return mourners;
                case 15:
                    return leaks;
                default:
                    return null;
            }
        }

        int answer(int what) {
            if (what < 0) {
                return NONE;
            }
            if (what < BASICS) {
                return basics[what];
            }
            if (what < 20) {
                Rows things = rowsOf(what);
                return things == null ? NONE : things.size;
            }
            if (what < 60) {
                return what < 40 ? rocks.number(what - 20, 0) : rocks.number(what - 40, 1);
            }
            if (what < 100) {
                return what < 80 ? graves.number(what - 60, 0) : graves.number(what - 80, 1);
            }
            if (what < 110) {
                return wreaths.number(what - 100, 0);
            }
            if (what < 140) {
                return mourners.number(what % 10, (what - 110) / 10);
            }
            return what < 160 ? leaks.number(what % 10, (what - 140) / 10) : NONE;
        }

        /** How many columns (axis 0) or rows (axis 1) the raft has: 1 at least. */
        int lines(int axis) {
            return axis == 0 ? columns : rows;
        }

        int places() {
            return columns * rows;
        }

        /** The column (axis 0) or the row (axis 1) of a PLACE. */
        int lineOf(int place, int axis) {
            return (arm(place, axis) + lines(axis) - 1) / 2;
        }

        /** What a weight of 1 on a PLACE puts to LIST. */
        int arm(int place, int axis) {
            return place >= 0 && place < MOST_PLACES ? arms[axis == 0 ? place : MOST_PLACES + place] : 0;
        }

        /** LIST of the GRAVES alone. */
        int graveList(int axis) {
            return axis == 0 ? lists[0] : lists[1];
        }

        int graveWeight() {
            int sum = 0;
            for (int k = 0; k < graves.size; k++) {
                sum += graves.number(k, 1);
            }
            return sum;
        }

        /** All SIZES of the WREATHS together. */
        int wreathSizes() {
            return sizes;
        }

        /** LEAN by a LIST. */
        int lean(int list) {
            return Math.abs(list) <= basics[STIFF] ? 0 : Integer.signum(list);
        }

        boolean hasCell(int x, int y) {
            return x >= 0 && x < basics[WIDTH] && y >= 0 && y < basics[HEIGHT];
        }

        /** Whether a lake's raft is all in this lake, its first cell at x, y. */
        boolean surrounds(Lake build, int x, int y) {
            return x >= 0 && y >= 0 && x + build.columns <= basics[WIDTH] && y + build.rows <= basics[HEIGHT];
        }

        /** Whether a lake's raft, its first cell at x, y (0 or more), is on one of this lake's rocks. */
        private boolean hasRockUnder(Lake build, int x, int y) {
            int hull = ((1 << build.columns) - 1) << x;
            for (int row = y; row < y + build.rows; row++) {
                if (row >= 0 && row < MOST_CELLS && (rockBits[row] & hull) != 0) {
                    return true;
                }
            }
            return false;
        }

        boolean floats(Lake build, int x, int y) {
            return surrounds(build, x, y) && !hasRockUnder(build, x, y);
        }

        /** The FAULT that only the whole text shows, after settle(); 0 without. */
        int wholeFault() {
            if (!surrounds(this, basics[X], basics[Y])) {
                return 4;
            }
            if (hasNoPlaceFor(graves) || hasNoPlaceFor(leaks)) {
                return 5;
            }
            for (int k = 0; k < rocks.size; k++) {
                if (!hasCell(rocks.number(k, 0), rocks.number(k, 1))) {
                    return 6;
                }
            }
            return hasRockUnder(this, basics[X], basics[Y]) ? 6 : 0;
        }

        private boolean hasNoPlaceFor(Rows things) {
            for (int k = 0; k < things.size; k++) {
                if (things.number(k, 0) >= places()) {
                    return true;
                }
            }
            return false;
        }

        /** The column (axis 0) or row (axis 1) of most WEIGHT of GRAVES, of several the least. */
        int heaviestLine(int axis) {
            int heaviest = 0;
            int most = NONE;
            for (int line = 0; line < lines(axis); line++) {
                int weight = 0;
                for (int k = 0; k < graves.size; k++) {
                    if (lineOf(graves.number(k, 0), axis) == line) {
                        weight += graves.number(k, 1);
                    }
                }
                if (weight > most) {
                    most = weight;
                    heaviest = line;
                }
            }
            return heaviest;
        }

        /** The sizes of both LISTS together, of the GRAVES and of a further weight (below 0: of one gone). */
        private int tiltWith(int weight, int place) {
            return Math.abs(lists[0] + weight * arm(place, 0)) + Math.abs(lists[1] + weight * arm(place, 1));
        }

        /** The GRAVE without which the raft lies evenest; NONE without GRAVES. */
        int keel() {
            int keel = NONE;
            int least = FAR;
            for (int k = 0; k < graves.size; k++) {
                int tilt = tiltWith(-graves.number(k, 1), graves.number(k, 0));
                if (tilt < least) {
                    least = tilt;
                    keel = k;
                }
            }
            return keel;
        }

        /** The PLACE on which a MOURNER alone makes the raft lie evenest. */
        int trimOf(int mourner) {
            int weight = mourners.number(mourner, 0);
            int best = 0;
            int least = FAR;
            for (int place = 0; place < places(); place++) {
                int tilt = tiltWith(weight, place);
                if (tilt < least) {
                    least = tilt;
                    best = place;
                }
            }
            return best;
        }
    }

    /** All that is told, the tape and the FAULT too: what an image holds. */
    private static final class Told {
        static final int TAPE = 600;

        final int[] tape = new int[TAPE];
        int length;
        int fault;
        int place = NONE;
        final int[] counts = new int[SORTS];
        final Lake[] lakes = new Lake[OF_EACH_SORT];
        /** The days, nights, fogs and laws, those of a sort side by side; those of the lakes' sort stay empty. */
        final Rows[] pages = new Rows[SORTS * OF_EACH_SORT];

        Told() {
            for (int k = 0; k < OF_EACH_SORT; k++) {
                lakes[k] = new Lake();
            }
            for (int k = 0; k < SORTS * OF_EACH_SORT; k++) {
                pages[k] = new Rows(Reader.mostRows(k / OF_EACH_SORT));
            }
        }

        /** Puts a number's four bytes behind the tape; the caller has seen that there is room. */
        void append(int number) {
            for (int shift = 24; shift >= 0 && length < TAPE; shift -= 8) {
                tape[length] = (number >>> shift) & 255;
                length++;
            }
        }

        private boolean has(int sort, int at) {
            return sort >= 0 && sort < SORTS && at >= 0 && at < OF_EACH_SORT && at < counts[sort];
        }

        /** Where a text goes that is told as a further one (at NONE) or in the place of one; NONE: nowhere. */
        int slotFor(int sort, int at) {
            if (sort < 0 || sort >= SORTS) {
                return NONE;
            }
            if (at == NONE) {
                return counts[sort] < OF_EACH_SORT ? counts[sort] : NONE;
            }
            return has(sort, at) ? at : NONE;
        }

        /** A LAKE; null if there is none such. */
        Lake lakeAt(int at) {
            return has(LAKES, at) ? lakes[at] : null;
        }

        /** A DAY, NIGHT, FOG or LAW; null if there is none such. */
        Rows pageAt(int sort, int at) {
            return has(sort, at) ? pages[sort * OF_EACH_SORT + at] : null;
        }

        /** Keeps what was read, where slotFor() has said. */
        void take(int sort, int slot, Reader read) {
            if (sort < 0 || sort >= SORTS || slot < 0 || slot >= OF_EACH_SORT) {
                return;
            }
            if (sort == LAKES) {
                lakes[slot].takeFrom(read.lake);
            } else {
                pages[sort * OF_EACH_SORT + slot].takeFrom(read.pages[sort]);
            }
            counts[sort] = Math.max(counts[sort], slot + 1);
        }

        void takeFrom(Told other) {
            System.arraycopy(other.tape, 0, tape, 0, TAPE);
            length = other.length;
            fault = other.fault;
            place = other.place;
            System.arraycopy(other.counts, 0, counts, 0, SORTS);
            for (int k = 0; k < OF_EACH_SORT; k++) {
                lakes[k].takeFrom(other.lakes[k]);
            }
            for (int k = 0; k < SORTS * OF_EACH_SORT; k++) {
                pages[k].takeFrom(other.pages[k]);
            }
        }
    }

    // ---- reading ----

    /**
     * The words that begin a line, and the bounds of the numbers behind each. A code is 100 times the sort of text, and
     * the number by which lake() tells what the line tells (of two numbers the first one's), or deed(), term() do.
     * Bounds are the least and the greatest number as one: the least times 1000, and the greatest; NONE: no number.
     */
    private enum Word {
        SIZE(0, "lake", 2012, 2012, NONE),
        RAFT(2, "raft", 1004, 1004, NONE),
        AT(4, "at", 11, 11, NONE),
        STIFF(6, "stiff", 99, NONE, NONE),
        DRAG(7, "drag", 1099, NONE, NONE),
        FLOAT(8, "float", 1099, NONE, NONE),
        BROTHERS(9, "brothers", 3, 3, NONE),
        ROCK(11, "rock", 11, 11, NONE),
        GRAVE(12, "grave", 15, 1030, NONE),
        WREATH(13, "wreath", 1009, NONE, NONE),
        MOURNER(14, "mourner", 1006, 9, 1),
        LEAK(15, "leak", 15, 1009, NONE),

        STAND(100, "stand", 4, 15, NONE),
        LEAVE(101, "leave", 4, NONE, NONE),
        WIND(102, "wind", 3, 1009, NONE),
        CALM(103, "calm", NONE, NONE, NONE),
        FROST(104, "frost", NONE, NONE, NONE),
        THAW(105, "thaw", NONE, NONE, NONE),
        MOOR(106, "moor", NONE, NONE, NONE),
        CAST(107, "cast", NONE, NONE, NONE),
        BAIL(108, "bail", 15, NONE, NONE),
        HOURS(109, "hours", 1009, NONE, NONE),

        LAY(200, "lay", 11, 11, NONE),

        DEAD(300, "dead", 7, NONE, NONE),

        BY_GRAVE(400, "grave", 9, NONE, NONE),
        BY_LIST(401, "list", 999, 99, NONE),
        BY_TOUCH(402, "touch", 3, 99, NONE),
        BY_WATER(403, "water", 9, NONE, NONE),
        BY_ODD(404, "odd", 99, NONE, NONE),
        AT_MOST(405, "most", 999, NONE, NONE);

        private final int code;
        private final String letters;
        private final int first;
        private final int second;
        private final int third;

        Word(int code, String letters, int first, int second, int third) {
            this.code = code;
            this.letters = letters;
            this.first = first;
            this.second = second;
            this.third = third;
        }

        private int sort() {
            return code / 100;
        }

        /** What the line tells, among those of its sort. */
        private int matter() {
            return code % 100;
        }

        /** The bounds of the k-th number; NONE if there is no k-th one. */
        private int bounds(int k) {
            if (k == 0) {
                return first;
            }
            return k == 1 ? second : k == 2 ? third : NONE;
        }

        private boolean takesNumber(int k) {
            return bounds(k) != NONE;
        }

        private boolean allows(int k, int number) {
            int bounds = bounds(k);
            return number >= bounds / 1000 && number <= bounds % 1000;
        }
    }

    /** Reads the tape as a text of a sort: what it tells, or its FAULT. */
    private static final class Reader {
        static final int END = 0;
        static final int WORD = 1;
        static final int NUMBER = 2;
        static final int SEMICOLON = 3;
        static final int NO_TOKEN = 4;
        private static final Word[] WORDS = Word.values();

        /** What was read, of no meaning if there is a FAULT; pages by sort. */
        final Lake lake = new Lake();
        final Rows[] pages = new Rows[SORTS];
        int fault;
        int place = NONE;

        private int[] tape = new int[0];
        private int length;
        /** The token that is looked at: what it is, its first byte, the byte behind it. */
        private int kind;
        private int from;
        private int behind;
        private int number;
        /** The numbers of the line that is read. */
        private final int[] numbers = new int[3];

        Reader() {
            for (int sort = 0; sort < SORTS; sort++) {
                pages[sort] = new Rows(mostRows(sort));
            }
        }

        static int mostRows(int sort) {
            if (sort == LAKES) {
                return 0;
            }
            return sort == DAYS ? 40 : 8;
        }

        void read(int[] bytes, int n, int sort) {
            tape = bytes;
            length = Math.min(n, bytes.length);
            fault = 0;
            place = NONE;
            behind = 0;
            lake.forget();
            for (int k = 0; k < SORTS; k++) {
                pages[k].size = 0;
            }
            look();
            for (int line = 0; line <= length && kind != END && fault != 1; line++) {
                readLine(sort);
            }
            if (fault == 0 && sort == LAKES) {
                lake.settle();
                fault = lake.wholeFault();
                place = fault == 0 ? NONE : length;
            }
        }

        private int byteAt(int at) {
            return at >= 0 && at < length && at < tape.length ? tape[at] : NONE;
        }

        private static boolean isLetter(int sign) {
            return sign >= 'a' && sign <= 'z';
        }

        private static boolean isDigit(int sign) {
            return sign >= '0' && sign <= '9';
        }

        /** Looks at the next token. */
        private void look() {
            from = behind;
            while (from < length && (byteAt(from) == 10 || byteAt(from) == 32)) {
                from++;
            }
            behind = from;
            int sign = byteAt(from);
            if (sign == NONE) {
                kind = END;
            } else if (isLetter(sign)) {
                kind = WORD;
                while (behind < length && isLetter(byteAt(behind))) {
                    behind++;
                }
            } else if (isDigit(sign)) {
                lookAtDigits();
            } else {
                kind = sign == ';' ? SEMICOLON : NO_TOKEN;
                behind++;
            }
        }

        private void lookAtDigits() {
            number = 0;
            while (behind < length && isDigit(byteAt(behind))) {
                // a longer row is no token: what it would count does not matter
                number = behind - from < 3 ? number * 10 + byteAt(behind) - '0' : number;
                behind++;
            }
            kind = behind - from <= 3 ? NUMBER : NO_TOKEN;
        }

        /** FAULT 1: with the token that is looked at no text goes on. */
        private void breakOff() {
            fault = 1;
            place = from;
        }

        private void note(int sort, int at) {
            if (fault == 0 || fault != 1 && (at < place || at == place && sort < fault)) {
                fault = sort;
                place = at;
            }
        }

        /** The word that is looked at, if lines of the sort begin with it; else null. */
        private Word wordOf(int sort) {
            if (kind != WORD) {
                return null;
            }
            for (int k = 0; k < WORDS.length; k++) {
                if (WORDS[k].sort() == sort && isSpelled(WORDS[k].letters)) {
                    return WORDS[k];
                }
            }
            return null;
        }

        private boolean isSpelled(String letters) {
            if (letters.length() != behind - from) {
                return false;
            }
            for (int k = 0; k < letters.length(); k++) {
                if (letters.charAt(k) != byteAt(from + k)) {
                    return false;
                }
            }
            return true;
        }

        private void readLine(int sort) {
            int start = from;
            Word word = wordOf(sort);
            if (word == null) {
                breakOff();
                return;
            }
            look();
            readNumbers(word);
            if (word == Word.DEAD && fault != 1) {
                readFurtherGraves();
            }
            if (fault == 1) {
                return;
            }
            if (kind != SEMICOLON) {
                breakOff();
                return;
            }
            look();
            if (!tell(word)) {
                note(3, start);
            }
        }

        private void readNumbers(Word word) {
            for (int k = 0; k < 3; k++) {
                numbers[k] = NONE;
            }
            for (int k = 0; k < 3 && word.takesNumber(k); k++) {
                if (kind != NUMBER) {
                    breakOff();
                    return;
                }
                boolean isSameBrother = word == Word.BROTHERS && k == 1 && number == numbers[0];
                if (!word.allows(k, number) || isSameBrother) {
                    note(2, from);
                }
                numbers[k] = number;
                look();
            }
        }

        /** Of one of the DEAD: makes the first GRAVE a bit, and puts the bits of the further ones to it. */
        private void readFurtherGraves() {
            int bits = Word.DEAD.allows(0, numbers[0]) ? 1 << numbers[0] : 0;
            for (int k = 0; k <= length && kind == NUMBER; k++) {
                if (!Word.DEAD.allows(0, number) || isIn(bits, number)) {
                    note(2, from);
                } else {
                    bits |= 1 << number;
                }
                look();
            }
            numbers[0] = bits;
        }

        /** Takes a line as told; false if there are as many of its kind as may be. */
        private boolean tell(Word word) {
            int sort = word.sort();
            if (sort == LAKES) {
                return tellOfLake(word);
            }
            if (sort < 0 || sort >= SORTS) {
                return false;
            }
            if (sort == DAYS || sort == LAWS) {
                return pages[sort].add(word.matter(), numbers[0], numbers[1]);
            }
            return pages[sort].add(numbers[0], numbers[1], numbers[2]);
        }

        private boolean tellOfLake(Word word) {
            Rows things = lake.rowsOf(word.matter());
            if (things != null) {
                return things.add(numbers[0], numbers[1], numbers[2]);
            }
            for (int k = 0; k < 3 && word.takesNumber(k) && word.matter() + k < Lake.BASICS; k++) {
                lake.basics[word.matter() + k] = numbers[k];
            }
            return true;
        }
    }

    // ---- the raft under way ----

    /** A raft as it lies: a STATE. */
    private static final class Raft {
        /** The lake that tells the raft, and the one in whose water it lies. */
        private Lake build;
        private Lake waters;
        int x;
        int y;
        int hours;
        int aground;
        int touched;
        boolean isSunk;
        private boolean isFrost;
        private boolean isMoored;
        private int way;
        private int force;
        final int[] stands = new int[MOST_MOURNERS];
        private final int[] water = new int[MOST_PLACES];

        Raft(Lake first) {
            build = first;
            waters = first;
        }

        /** Puts the raft as a day begins: as the lake tells it, everybody ashore. */
        void launch(Lake told, Lake around) {
            build = told;
            waters = around;
            hours = 0;
            aground = 0;
            isSunk = false;
            isFrost = false;
            isMoored = false;
            way = NONE;
            force = 0;
            for (int m = 0; m < MOST_MOURNERS; m++) {
                stands[m] = NONE;
            }
            for (int p = 0; p < MOST_PLACES; p++) {
                water[p] = 0;
            }
            putAt(told.basics[Lake.X], told.basics[Lake.Y]);
            touched = sides();
        }

        void putAt(int column, int row) {
            x = column;
            y = row;
        }

        int answer(int what) {
            switch (what) {
                case 0:
                    return x;
                case 1:
                    return y;
                case 2:
                    return hours;
                case 3:
                    return aground;
                case 4:
                    return touched;
                case 5:
                    return allWater();
                case 6:
                    return isSunk ? 1 : 0;
                case 7:
                    return isFrost ? 1 : 0;
                case 8:
                    return isMoored ? 1 : 0;
                case 9:
                    return way;
                case 10:
                    return force;
                default:
                    return answerOfOne(what);
            }
        }

        private int answerOfOne(int what) {
            if (what >= 20 && what < 20 + MOST_MOURNERS) {
                return build.mourners.has(what - 20) ? stands[what - 20] : MISSING;
            }
            return what >= 30 && hasPlace(what - 30) ? water[what - 30] : MISSING;
        }

        private boolean hasPlace(int place) {
            return place >= 0 && place < MOST_PLACES && place < build.places();
        }

        private boolean hasMourner(int mourner) {
            return mourner < MOST_MOURNERS && build.mourners.has(mourner);
        }

        private int allWater() {
            int sum = 0;
            for (int p = 0; p < MOST_PLACES; p++) {
                sum += water[p];
            }
            return sum;
        }

        /** The SIDES (bits) at which the raft lies. */
        int sides() {
            int bits = y == 0 ? 1 : 0;
            bits |= x + build.lines(0) == waters.basics[Lake.WIDTH] ? 2 : 0;
            bits |= y + build.lines(1) == waters.basics[Lake.HEIGHT] ? 4 : 0;
            return bits | (x == 0 ? 8 : 0);
        }

        int listAlong(int axis) {
            int sum = build.graveList(axis);
            for (int m = 0; m < MOST_MOURNERS; m++) {
                if (stands[m] != NONE) {
                    sum += build.mourners.number(m, 0) * build.arm(stands[m], axis);
                }
            }
            for (int p = 0; p < MOST_PLACES; p++) {
                if (water[p] != 0) {
                    sum += water[p] * build.arm(p, axis);
                }
            }
            return sum;
        }

        /** Where a wind of a way would blow the raft along an axis. */
        private int blown(int windWay, int windForce, int axis) {
            if (windWay == NONE || axisOf(windWay) != axis) {
                return 0;
            }
            return build.wreathSizes() * windForce >= build.basics[Lake.DRAG] ? signOf(windWay) : 0;
        }

        private static int axisOf(int side) {
            return side == 1 || side == 3 ? 0 : 1;
        }

        private static int signOf(int side) {
            return side == 1 || side == 2 ? 1 : -1;
        }

        int driftAlong(int axis) {
            return Integer.signum(build.lean(listAlong(axis)) + blown(way, force, axis));
        }

        /** TURN of a WAY. */
        int forceToTurn(int windWay) {
            int axis = axisOf(windWay);
            int lean = build.lean(listAlong(axis));
            for (int f = 1; f <= 9; f++) {
                if (Integer.signum(lean + blown(windWay, f, axis)) == signOf(windWay)) {
                    return f;
                }
            }
            return NONE;
        }

        /** One hour's drift, of both axes: first along x, then along y. */
        void move(int dx, int dy) {
            if (dx != 0) {
                if (waters.floats(build, x + dx, y)) {
                    x += dx;
                } else {
                    aground++;
                }
            }
            if (dy != 0) {
                if (waters.floats(build, x, y + dy)) {
                    y += dy;
                } else {
                    aground++;
                }
            }
        }

        /** An hour without leaks, frost and moorings. */
        void floatOn() {
            move(driftAlong(0), driftAlong(1));
        }

        private void passHour() {
            if (isSunk) {
                return;
            }
            if (!isFrost && !isMoored) {
                move(driftAlong(0), driftAlong(1));
            }
            hours++;
            touched |= sides();
            for (int k = 0; k < build.leaks.size; k++) {
                int place = build.leaks.number(k, 0);
                if (hasPlace(place)) {
                    water[place] += build.leaks.number(k, 1);
                }
            }
            isSunk = allWater() > build.basics[Lake.FLOAT];
        }

        /** Does a DEED; false, and nothing is done, if it can't be. */
        boolean obeys(int kind, int a, int b) {
            if (isSunk) {
                return false;
            }
            switch (kind) {
                case 0:
                    return takesAboard(a, b);
                case 1:
                    return setsAshore(a);
                case 2:
                    way = a;
                    force = b;
                    return true;
                case 3:
                    return calms();
                case 4:
                    return freezes(true);
                case 5:
                    return freezes(false);
                case 6:
                    return sides() != 0 && moors(true);
                case 7:
                    return moors(false);
                case 8:
                    return isBailed(a);
                default:
                    for (int h = 0; h < a && !isSunk; h++) {
                        passHour();
                    }
                    return true;
            }
        }

        private boolean takesAboard(int mourner, int place) {
            if (!hasMourner(mourner) || !hasPlace(place) || stands[mourner] == place) {
                return false;
            }
            stands[mourner] = place;
            return true;
        }

        private boolean setsAshore(int mourner) {
            if (!hasMourner(mourner) || stands[mourner] == NONE) {
                return false;
            }
            stands[mourner] = NONE;
            return true;
        }

        private boolean calms() {
            if (way == NONE) {
                return false;
            }
            way = NONE;
            force = 0;
            return true;
        }

        private boolean freezes(boolean toFrost) {
            boolean isChange = isFrost != toFrost;
            isFrost = toFrost;
            return isChange;
        }

        private boolean moors(boolean toMoored) {
            boolean isChange = isMoored != toMoored;
            isMoored = toMoored;
            return isChange;
        }

        private boolean isBailed(int place) {
            if (!hasPlace(place) || water[place] == 0) {
                return false;
            }
            water[place] = 0;
            return true;
        }

        /** WAKE. */
        int hoursTillAground(int most) {
            int before = aground;
            for (int h = 1; h <= most; h++) {
                passHour();
                if (aground > before) {
                    return h;
                }
            }
            return NONE;
        }

        /** HOLD. */
        int hoursTillSunk(int most) {
            for (int h = 0; h <= most; h++) {
                if (isSunk) {
                    return h;
                }
                passHour();
            }
            return NONE;
        }

        /** OWED by the TERMS of a LAW. */
        int debtBy(Rows terms) {
            int debt = 0;
            for (int k = 0; k < terms.size; k++) {
                int a = terms.number(k, 1);
                int b = terms.number(k, 2);
                switch (terms.number(k, 0)) {
                    case 0:
                        debt += a * build.graveWeight();
                        break;
                    case 1:
                        debt += Math.abs(listAlong(0)) + Math.abs(listAlong(1)) > a ? b : 0;
                        break;
                    case 2:
                        debt += isIn(touched, a) ? b : 0;
                        break;
                    case 3:
                        debt += a * allWater();
                        break;
                    case 4:
                        debt += (x + y) % 2 == 1 ? a : 0;
                        break;
                    default:
                        debt = Math.min(debt, a);
                        break;
                }
            }
            return debt;
        }

        /** Whether this raft and another one have a cell in common, or (beside) cells that are next to one another. */
        boolean isBy(Raft other, boolean beside) {
            int gapX = Math.max(other.x - x - build.lines(0), x - other.x - other.build.lines(0));
            int gapY = Math.max(other.y - y - build.lines(1), y - other.y - other.build.lines(1));
            // a gap below 0 is an overlap, a gap of 0 two lines side by side; by corners alone is not beside
            return gapX < 0 && gapY < 0 || beside && gapX <= 0 && gapY <= 0 && gapX + gapY < 0;
        }

        /** So many HOURS by winds that a SEED draws. */
        void sailBySeed(int seed, int n) {
            int drawn = seed;
            for (int h = 0; h < n; h++) {
                drawn = afterSeed(drawn);
                int side = (drawn >>> 16) % 5;
                calms();
                if (side < 4) {
                    drawn = afterSeed(drawn);
                    way = side;
                    force = (drawn >>> 16) % 9 + 1;
                }
                passHour();
            }
        }

        private static int afterSeed(int seed) {
            return seed * 1103515245 + 12345;
        }
    }

    // ---- whom to send ----

    /** What it costs to send a raft each way, and where it can come to by that. */
    private static final class Course {
        private static final int CELLS = MOST_CELLS * MOST_CELLS;
        private static final int DRIFTS = 9;
        /** Which of the two BROTHERS has been touched, as bits. */
        private static final int BOTH = 3;
        private static final int MEMORIES = 4;
        private static final int SETS = 32;

        /** For each set of MOURNERS aboard the LEANS that they can bring about (bits of LEAN and 1), by x, then by y. */
        private final int[] leans = new int[SETS * 2];
        /** COST by DRIFT; NONE if none do it. */
        private final int[] prices = new int[DRIFTS];
        /** Where the raft lies behind an hour, by its first cell and the DRIFT. */
        private final int[] next = new int[CELLS * DRIFTS];
        /** Which of the BROTHERS it touches there. */
        private final int[] touches = new int[CELLS];
        /** The least found so far, by cell and the BROTHERS touched on the way. */
        private final int[] least = new int[CELLS * MEMORIES];
        private final boolean[] isHere = new boolean[CELLS];
        private final boolean[] isNext = new boolean[CELLS];
        private final Raft probe;

        Course(Lake first) {
            probe = new Raft(first);
        }

        private static int driftOf(int dx, int dy) {
            return (dy + 1) * 3 + dx + 1;
        }

        private static int cellOf(int x, int y) {
            return y * MOST_CELLS + x;
        }

        /** Learns COST of every DRIFT. */
        void weigh(Lake lake) {
            // columns and rows are chosen apart, so one set's LEANS along x and along y do not hinder each other
            findLeans(lake, 0);
            findLeans(lake, 1);
            priceWithout(lake, 0);
        }

        private void findLeans(Lake lake, int axis) {
            int crew = lake.mourners.size;
            int choices = lake.lines(axis) + 1;
            int ways = 1;
            for (int m = 0; m < crew; m++) {
                ways *= choices;
            }
            for (int set = 0; set < SETS; set++) {
                leans[axis * SETS + set] = 0;
            }
            int graves = lake.graveList(axis);
            for (int way = 0; way < ways; way++) {
                int rest = way;
                int set = 0;
                int list = graves;
                for (int m = 0; m < crew; m++) {
                    int choice = rest % choices;
                    rest /= choices;
                    if (choice > 0) {
                        set |= 1 << m;
                        list += lake.mourners.number(m, 0) * (2 * choice - choices);
                    }
                }
                leans[axis * SETS + set % SETS] |= 1 << (lake.lean(list) + 1);
            }
        }

        /** COST of every DRIFT, if the MOURNERS of a set (bits) stay ashore. */
        private void priceWithout(Lake lake, int ashore) {
            for (int drift = 0; drift < DRIFTS; drift++) {
                prices[drift] = NONE;
            }
            int sets = 1 << lake.mourners.size;
            for (int set = 0; set < sets && set < SETS; set++) {
                if ((set & ashore) == 0) {
                    lowerPrices(set, tearsOf(lake, set));
                }
            }
        }

        private static int tearsOf(Lake lake, int set) {
            int tears = 0;
            for (int m = 0; m < lake.mourners.size; m++) {
                tears += isIn(set, m) ? lake.mourners.number(m, 1) : 0;
            }
            return tears;
        }

        private void lowerPrices(int set, int tears) {
            for (int drift = 0; drift < DRIFTS; drift++) {
                boolean isDone = isIn(leans[set], drift % 3) && isIn(leans[SETS + set], drift / 3);
                if (isDone && (prices[drift] == NONE || tears < prices[drift])) {
                    prices[drift] = tears;
                }
            }
        }

        int priceOf(int dx, int dy) {
            return prices[driftOf(dx, dy)];
        }

        /** Learns where every DRIFT takes the raft from wherever it can lie. */
        void chart(Lake lake) {
            probe.launch(lake, lake);
            for (int cell = 0; cell < CELLS; cell++) {
                int x = cell % MOST_CELLS;
                int y = cell / MOST_CELLS;
                probe.putAt(x, y);
                int sides = probe.sides();
                touches[cell] = isIn(sides, lake.basics[Lake.BROTHERS]) ? 1 : 0;
                touches[cell] |= isIn(sides, lake.basics[Lake.BROTHERS + 1]) ? 2 : 0;
                boolean isWater = lake.floats(lake, x, y);
                for (int drift = 0; drift < DRIFTS; drift++) {
                    probe.putAt(x, y);
                    if (isWater) {
                        probe.move(drift % 3 - 1, drift / 3 - 1);
                    }
                    next[cell * DRIFTS + drift] = cellOf(probe.x, probe.y);
                }
            }
        }

        private static int startOf(Lake lake) {
            return cellOf(lake.basics[Lake.X], lake.basics[Lake.Y]);
        }

        /** Learns the cells at which the raft can lie behind so many hours. */
        void spread(Lake lake, int hours) {
            for (int cell = 0; cell < CELLS; cell++) {
                isHere[cell] = cell == startOf(lake);
            }
            for (int h = 0; h < hours; h++) {
                for (int cell = 0; cell < CELLS; cell++) {
                    isNext[cell] = false;
                }
                for (int k = 0; k < CELLS * DRIFTS; k++) {
                    if (isHere[k / DRIFTS] && prices[k % DRIFTS] != NONE) {
                        isNext[next[k]] = true;
                    }
                }
                System.arraycopy(isNext, 0, isHere, 0, CELLS);
            }
        }

        int cellsReached() {
            int cells = 0;
            for (int cell = 0; cell < CELLS; cell++) {
                cells += isHere[cell] ? 1 : 0;
            }
            return cells;
        }

        boolean isReached(int x, int y) {
            return isHere[cellOf(x, y)];
        }

        /** Finds the least of hours, or else of TEARS, to every cell and BROTHERS touched. */
        private void findLeast(Lake lake, boolean byHours) {
            for (int k = 0; k < CELLS * MEMORIES; k++) {
                least[k] = FAR;
            }
            int start = startOf(lake);
            least[start * MEMORIES + touches[start]] = 0;
            boolean isChanged = true;
            // a way that is worth going comes to nothing twice: there are no more rounds than cells and memories
            for (int round = 0; round <= CELLS * MEMORIES && isChanged; round++) {
                isChanged = false;
                for (int k = 0; k < CELLS * MEMORIES; k++) {
                    if (least[k] != FAR) {
                        isChanged |= goOn(k, byHours);
                    }
                }
            }
        }

        private boolean goOn(int from, boolean byHours) {
            int cell = from / MEMORIES;
            boolean isChanged = false;
            for (int drift = 0; drift < DRIFTS; drift++) {
                if (prices[drift] != NONE) {
                    int to = next[cell * DRIFTS + drift];
                    int at = to * MEMORIES + (from % MEMORIES | touches[to]);
                    int sum = least[from] + (byHours ? 1 : prices[drift]);
                    if (sum < least[at]) {
                        least[at] = sum;
                        isChanged = true;
                    }
                }
            }
            return isChanged;
        }

        /** SOON (by hours) or WEPT; NONE: never. */
        int leastToTouch(Lake lake, boolean byHours) {
            findLeast(lake, byHours);
            int best = FAR;
            for (int cell = 0; cell < CELLS; cell++) {
                best = Math.min(best, least[cell * MEMORIES + BOTH]);
            }
            return best == FAR ? NONE : best;
        }

        /** THRIFT; NONE: never. */
        int leastToLie(Lake lake, int x, int y) {
            findLeast(lake, false);
            int best = FAR;
            for (int memory = 0; memory < MEMORIES; memory++) {
                best = Math.min(best, least[cellOf(x, y) * MEMORIES + memory]);
            }
            return best == FAR ? NONE : best;
        }

        /** QUIET. */
        int idleMourners(Lake lake) {
            int soon = leastToTouch(lake, true);
            int idle = 0;
            for (int m = 0; m < lake.mourners.size && soon != NONE; m++) {
                priceWithout(lake, 1 << m);
                if (leastToTouch(lake, true) == soon) {
                    idle |= 1 << m;
                }
            }
            return idle;
        }
    }

    // ---- families ----

    /** PULL: what each KIN gains by every couple of choices. */
    private static final class Quarrel {
        private static final int CHOICES = 3;
        private static final int COUPLES = 9;

        /** By couple, KIN 0's, then KIN 1's. */
        private final int[] gains = new int[COUPLES * 2];

        void hear(Lake lake, int hours, Raft raft) {
            for (int couple = 0; couple < COUPLES; couple++) {
                raft.launch(lake, lake);
                int first = raft.x;
                int tears0 = board(lake, raft, 0, couple / CHOICES);
                int tears1 = board(lake, raft, 1, couple % CHOICES);
                for (int h = 0; h < hours; h++) {
                    raft.floatOn();
                }
                gains[couple * 2] = 10 * (first - raft.x) - hours * tears0;
                gains[couple * 2 + 1] = 10 * (raft.x - first) - hours * tears1;
            }
        }

        /** Puts a KIN where it chooses to be: the TEARS of its own that are aboard. */
        private static int board(Lake lake, Raft raft, int kin, int choice) {
            int tears = 0;
            for (int m = 0; m < lake.mourners.size && m < raft.stands.length; m++) {
                if (choice != 0 && lake.mourners.number(m, 2) == kin) {
                    raft.stands[m] = choice == 1 ? 0 : lake.lines(0) - 1;
                    tears += lake.mourners.number(m, 1);
                }
            }
            return tears;
        }

        int gainOf(int couple, int kin) {
            return gains[couple * 2 + kin];
        }

        private boolean rests(int couple) {
            int choice0 = couple / CHOICES;
            int choice1 = couple % CHOICES;
            for (int other = 0; other < CHOICES; other++) {
                if (gainOf(other * CHOICES + choice1, 0) > gainOf(couple, 0)
                        || gainOf(choice0 * CHOICES + other, 1) > gainOf(couple, 1)) {
                    return false;
                }
            }
            return true;
        }

        int atRest() {
            int resting = 0;
            for (int couple = 0; couple < COUPLES; couple++) {
                resting += rests(couple) ? 1 : 0;
            }
            return resting;
        }

        /** The k-th couple that rests; MISSING if there is none such. */
        int restAt(int k) {
            int seen = 0;
            for (int couple = 0; couple < COUPLES; couple++) {
                if (rests(couple)) {
                    if (seen == k) {
                        return couple;
                    }
                    seen++;
                }
            }
            return MISSING;
        }
    }

    // ---- nights ----

    /** A NIGHT: in how many ways the mourners may have stood. */
    private static final class Watch {
        private static final int DRIFTS = 9;
        private static final int MOST_CORNERS = 4;
        /** Ashore, or on one of the corners. */
        private static final int MOST_CHOICES = 5;

        int fits;
        int aboard;
        int fewest;
        int longest;
        private final int[] corners = new int[MOST_CORNERS];
        private int cornerCount;
        /** How many SIGHTS, from the first one on, are as each DRIFT makes them. */
        private final int[] seen = new int[DRIFTS];
        /** In how many ways that fit each MOURNER chose what: 0 ashore, else a corner and 1. */
        private final int[] chosen = new int[MOST_MOURNERS * MOST_CHOICES];
        private final int[] choice = new int[MOST_MOURNERS];

        void look(Lake lake, Rows sights, Raft raft) {
            findCorners(lake);
            for (int drift = 0; drift < DRIFTS; drift++) {
                seen[drift] = follow(lake, sights, raft, drift);
            }
            fits = 0;
            aboard = (1 << lake.mourners.size) - 1;
            fewest = NONE;
            longest = 0;
            for (int k = 0; k < MOST_MOURNERS * MOST_CHOICES; k++) {
                chosen[k] = 0;
            }
            int ways = 1;
            for (int m = 0; m < lake.mourners.size; m++) {
                ways *= cornerCount + 1;
            }
            for (int way = 0; way < ways; way++) {
                tryWay(lake, way, sights.size);
            }
            aboard = fits == 0 ? 0 : aboard;
        }

        private void findCorners(Lake lake) {
            cornerCount = 0;
            for (int place = 0; place < lake.places() && cornerCount < MOST_CORNERS; place++) {
                if (isOuter(lake, place, 0) && isOuter(lake, place, 1)) {
                    corners[cornerCount] = place;
                    cornerCount++;
                }
            }
        }

        private static boolean isOuter(Lake lake, int place, int axis) {
            int line = lake.lineOf(place, axis);
            return line == 0 || line == lake.lines(axis) - 1;
        }

        private static int follow(Lake lake, Rows sights, Raft raft, int drift) {
            raft.launch(lake, lake);
            for (int k = 0; k < sights.size; k++) {
                raft.move(drift % 3 - 1, drift / 3 - 1);
                if (raft.x != sights.number(k, 0) || raft.y != sights.number(k, 1)) {
                    return k;
                }
            }
            return sights.size;
        }

        private void tryWay(Lake lake, int way, int sights) {
            int rest = way;
            int set = 0;
            int listX = lake.graveList(0);
            int listY = lake.graveList(1);
            for (int m = 0; m < lake.mourners.size && m < MOST_MOURNERS; m++) {
                choice[m] = rest % (cornerCount + 1);
                rest /= cornerCount + 1;
                if (choice[m] > 0 && choice[m] <= MOST_CORNERS) {
                    int place = corners[choice[m] - 1];
                    set |= 1 << m;
                    listX += lake.mourners.number(m, 0) * lake.arm(place, 0);
                    listY += lake.mourners.number(m, 0) * lake.arm(place, 1);
                }
            }
            int matched = seen[(lake.lean(listY) + 1) * 3 + lake.lean(listX) + 1];
            longest = Math.max(longest, matched);
            if (matched == sights) {
                keepWay(set, lake.mourners.size);
            }
        }

        private void keepWay(int set, int crew) {
            int people = Integer.bitCount(set);
            fits++;
            aboard &= set;
            fewest = fewest == NONE ? people : Math.min(fewest, people);
            for (int m = 0; m < crew && m < MOST_MOURNERS; m++) {
                chosen[m * MOST_CHOICES + choice[m]]++;
            }
        }

        /** In how many ways that fit a MOURNER stood at a PLACE (NONE: ashore); NONE if it is no corner. */
        int waysAt(int mourner, int place) {
            if (mourner < 0 || mourner >= MOST_MOURNERS) {
                return NONE;
            }
            if (place == NONE) {
                return chosen[mourner * MOST_CHOICES];
            }
            for (int k = 0; k < cornerCount; k++) {
                if (corners[k] == place) {
                    return chosen[mourner * MOST_CHOICES + k + 1];
                }
            }
            return NONE;
        }
    }

    // ---- fogs ----

    /** A FOG: whose lies where. */
    private static final class Search {
        private static final int GRAVES = 8;
        private static final int SETS = 256;

        /**
         * In how many ways each set of the DEAD can lie, all of it, in some graves: row k for those of k graves that
         * are opened, and for those that are not.
         */
        private final int[][] opened = new int[GRAVES + 1][SETS];
        private final int[][] closed = new int[GRAVES + 1][SETS];

        private static int setsOf(Rows dead) {
            return 1 << Math.min(dead.size, GRAVES);
        }

        private static void begin(int[] row) {
            for (int set = 0; set < SETS; set++) {
                row[set] = set == 0 ? 1 : 0;
            }
        }

        /** From the ways in some graves to those in these and one more (or, at NONE, in no more). */
        private static void extend(int[] from, int[] to, Rows dead, int grave) {
            System.arraycopy(from, 0, to, 0, SETS);
            for (int d = 0; d < dead.size && d < GRAVES && grave != NONE; d++) {
                if (isIn(dead.number(d, 0), grave)) {
                    lay(from, to, d);
                }
            }
        }

        /** The ways in which one of the DEAD lies in the further grave. */
        private static void lay(int[] from, int[] to, int one) {
            int bit = 1 << one;
            for (int set = bit; set < SETS; set++) {
                if ((set & bit) != 0) {
                    to[set] += from[set ^ bit];
                }
            }
        }

        /** In how many ways a set of the DEAD can lie in all graves but one (NONE: in all). */
        private int waysWithout(Rows dead, int set, int grave) {
            begin(closed[0]);
            for (int g = 0; g < GRAVES; g++) {
                extend(closed[g], closed[g + 1], dead, g == grave ? NONE : g);
            }
            return closed[GRAVES][set];
        }

        int ways(Rows dead) {
            return waysWithout(dead, setsOf(dead) - 1, NONE);
        }

        /** MAY of one of the DEAD. */
        int graves(Rows dead, int one) {
            int others = (setsOf(dead) - 1) ^ (1 << one);
            int bits = 0;
            for (int g = 0; g < GRAVES; g++) {
                if (isIn(dead.number(one, 0), g) && waysWithout(dead, others, g) > 0) {
                    bits |= 1 << g;
                }
            }
            return bits;
        }

        /** SURE of one of the DEAD; NONE if there is no such grave. */
        int sureGrave(Rows dead, int one) {
            int bits = graves(dead, one);
            return Integer.bitCount(bits) == 1 ? Integer.numberOfTrailingZeros(bits) : NONE;
        }

        /** DIG; NONE without ways. */
        int dig(Rows dead) {
            if (ways(dead) == 0) {
                return NONE;
            }
            begin(opened[0]);
            begin(closed[0]);
            int best = SETS - 1;
            for (int open = 0; open < SETS; open++) {
                openThese(dead, open);
                if (Integer.bitCount(open) < Integer.bitCount(best) && tellsAll(dead)) {
                    best = open;
                }
            }
            return best;
        }

        /** Learns the ways for a set of opened graves, those for the set before it being known. */
        private void openThese(Rows dead, int open) {
            // the last graves come first, as bits above the lowest one of a set are as in the set before
            int changed = Math.min(Integer.numberOfTrailingZeros(open), GRAVES - 1);
            for (int grave = changed; grave >= 0; grave--) {
                int row = GRAVES - 1 - grave;
                boolean isOpen = isIn(open, grave);
                extend(opened[row], opened[row + 1], dead, isOpen ? grave : NONE);
                extend(closed[row], closed[row + 1], dead, isOpen ? NONE : grave);
            }
        }

        /** Whether, whoever is found in the opened graves, the others can lie in one way at most. */
        private boolean tellsAll(Rows dead) {
            int all = setsOf(dead) - 1;
            for (int found = 0; found <= all; found++) {
                if (opened[GRAVES][found] > 0 && closed[GRAVES][all ^ found] > 1) {
                    return false;
                }
            }
            return true;
        }
    }

    // ---- leaks ----

    /** BAIL: in which order to bail the leaks. */
    private static final class Pump {
        private static final int MOST_HOURS = 8;
        private static final int MOST_LEAKS = 4;

        /** The most WATER by the best row found. */
        int best;
        private int hours;
        private final int[] row = new int[MOST_HOURS];
        private final int[] bestRow = new int[MOST_HOURS];
        /** WATER of each leak at the beginning of each hour. */
        private final int[][] water = new int[MOST_HOURS + 1][MOST_LEAKS];

        void plan(Rows leaks, int n) {
            hours = Math.min(n, MOST_HOURS);
            best = FAR;
            for (int k = 0; k < MOST_LEAKS; k++) {
                water[0][k] = 0;
            }
            tryHour(this, leaks, 0, 0);
        }

        int leakBailed(int k) {
            return k >= 0 && k < MOST_HOURS ? bestRow[k] : NONE;
        }

        /** Tries all rows from an hour on, in their order, but those that are no better: at most eight deep. */
        private static void tryHour(Pump pump, Rows leaks, int hour, int mostBefore) {
            if (hour >= pump.hours) {
                pump.best = mostBefore;
                System.arraycopy(pump.row, 0, pump.bestRow, 0, MOST_HOURS);
                return;
            }
            int most = Math.max(mostBefore, pump.letIn(leaks, hour));
            for (int bailed = 0; bailed < leaks.size && most < pump.best; bailed++) {
                pump.bailOne(leaks, hour, bailed);
                tryHour(pump, leaks, hour + 1, most);
            }
        }

        /** All WATER behind an hour's letting in. */
        private int letIn(Rows leaks, int hour) {
            int sum = 0;
            for (int k = 0; k < leaks.size && k < MOST_LEAKS; k++) {
                sum += water[hour][k] + leaks.number(k, 1);
            }
            return sum;
        }

        private void bailOne(Rows leaks, int hour, int bailed) {
            row[hour] = bailed;
            for (int k = 0; k < leaks.size && k < MOST_LEAKS; k++) {
                water[hour + 1][k] = k == bailed ? 0 : water[hour][k] + leaks.number(k, 1);
            }
        }
    }
}
