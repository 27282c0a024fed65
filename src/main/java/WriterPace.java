import java.util.Arrays;

/**
 * Writers held back fairly: devices write pages, writers make pages dirty, and pauses keep all
 * dirty pages below a limit. The document DOC.md numbers what each call promises.
 */
public final class WriterPace {
    public static final int NONE = -1;

    private static final int NO_SUCH = -2;
    private static final int BAD_NUMBER = -3;
    private static final int TOO_MANY = -4;
    private static final int NOT_NOW = -5;
    private static final int MISSING = -6;
    private static final int NO_PLACE = -7;
    private static final int WHY_NOT = -11;
    private static final int FAULTY = -30;

    private static final int TAPE = 900;
    private static final int FED = 20;
    private static final int DEVICES = 4;
    private static final int FILES = 12;
    private static final int WRITERS = 6;
    private static final int MAX_N = 999;
    private static final int MAX_WANTS = 99;
    private static final int FAR = 999;
    private static final int NEAR = 99;
    private static final int SPAN = 10;
    private static final int BUSY_SPANS = 8;
    private static final int WROTE_SPANS = 8;
    private static final int STALL_SPANS = 3;
    private static final int LOTS = 10;
    private static final int LOADS = 20;
    private static final int UNDOS = 10;
    private static final int TRAYS = 4;
    private static final int PLACES = 40;
    private static final int SORTS = 4;
    private static final int IMAGES = 2;
    private static final int TIMES = 100;

    // Items of a law's code; 0 to 999 are the numbers themselves.
    private static final int TIME = 1000;
    private static final int TOLD = 1001;
    private static final int DEVICE = 1002;
    private static final int WRITER = 1003;
    private static final int NOT = 1004;
    private static final int CHOOSE = 1005;
    private static final int PLUS = 1006;
    private static final int MINUS = 1007;
    private static final int BY = 1008;
    private static final int EQUAL = 1009;
    private static final int LESS = 1010;
    private static final int MORE = 1011;
    private static final int AND = 1012;
    private static final int OR = 1013;

    private final byte[] tape = new byte[TAPE];
    private int taped = 0;
    private final Host spare = new Host();
    private final Reader reader = new Reader(tape, spare);

    private final Host told = new Host();
    private final Clock clock = new Clock(told);
    private final State now = new State();
    private final State going = new State();
    private final State before = new State();

    private final State[] past = new State[UNDOS];
    private int pastFirst = 0;
    private int pastSize = 0;

    private final Tray[] trays = new Tray[TRAYS];
    private final Host[] imageHosts = new Host[IMAGES];
    private final State[] imageStates = new State[IMAGES];
    private final boolean[] imageMade = new boolean[IMAGES];

    private int drawn = 0;

    public WriterPace() {
        for (int i = 0; i < UNDOS; i++) {
            past[i] = new State();
        }
        for (int i = 0; i < TRAYS; i++) {
            trays[i] = new Tray();
        }
        for (int i = 0; i < IMAGES; i++) {
            imageHosts[i] = new Host();
            imageStates[i] = new State();
        }
        now.begin(told);
    }

    // ---- the host

    public int feed(int a, int b, int c, int d, int e) {
        if (taped > TAPE - FED) {
            return NOT_NOW;
        }
        layOnTape(a);
        layOnTape(b);
        layOnTape(c);
        layOnTape(d);
        layOnTape(e);
        return taped;
    }

    public int host(int n) {
        if (n < 0 || n > taped) {
            return BAD_NUMBER;
        }
        taped = 0;
        if (!reader.readText(n)) {
            return FAULTY - reader.fault;
        }
        told.copyFrom(spare);
        clock.forgetLaws();
        now.begin(told);
        pastSize = 0;
        return told.lines;
    }

    public int fault(int what) {
        switch (what) {
            case 0:
                return reader.fault;
            case 1:
                return reader.place;
            default:
                return NONE;
        }
    }

    public int set(int what) {
        switch (what) {
            case 0:
                return told.limit;
            case 1:
                return told.background;
            case 2:
                return told.age;
            case 3:
                return told.longest;
            case 4:
                return told.window;
            case 5:
                return told.chunk;
            case 6:
                return told.queue;
            case 7:
                return clock.freeOf(now);
            default:
                return NO_SUCH;
        }
    }

    public long device(int d, int what) {
        if (!isDevice(d)) {
            return NO_SUCH;
        }
        Drives drives = now.drives;
        switch (what) {
            case 0:
                return drives.speed[d];
            case 1:
                return drives.inFlight[d];
            case 2:
                return drives.dirty[d];
            case 3:
                return drives.credit[d];
            case 4:
                return (long) (drives.estimate[d] * 1000.0);
            case 5:
                return drives.counted[d];
            case 6:
                return clock.shareOf(now, d);
            case 7:
                return drives.wroteInAll[d];
            case 8:
                return drives.wroteInWindow[d];
            default:
                return NO_SUCH;
        }
    }

    public int file(int f, int what) {
        if (f < 0 || f >= told.files) {
            return NO_SUCH;
        }
        switch (what) {
            case 0:
                return told.deviceOfFile[f];
            case 1:
                return now.dirty[f];
            case 2:
                return now.ageOf(f);
            case 3:
                return clock.isOld(now, f) ? 1 : 0;
            default:
                return NO_SUCH;
        }
    }

    public int writer(int w, int what) {
        if (!isWriter(w)) {
            return NO_SUCH;
        }
        switch (what) {
            case 0:
                return told.fileOfWriter[w];
            case 1:
                return now.wanted[w];
            case 2:
                return now.pauseLeft[w];
            case 3:
                return now.lastPause[w];
            case 4:
                return now.made[w];
            case 5:
                return now.heldTimes[w];
            default:
                return NO_SUCH;
        }
    }

    public int next(int d) {
        if (!isDevice(d)) {
            return NO_SUCH;
        }
        int old = clock.oldestFile(now, d);
        return old != NONE ? old : clock.fileInTurn(now, d);
    }

    public int pause(int w, int x) {
        if (!isWriter(w)) {
            return NO_SUCH;
        }
        if (x < 1 || x > MAX_WANTS) {
            return BAD_NUMBER;
        }
        return clock.pauseOf(now, w, x);
    }

    // ---- deeds

    public int ticks(int n) {
        if (!isWithin(n, 1, FAR)) {
            return BAD_NUMBER;
        }
        before.copyFrom(now);
        clock.run(now, n);
        remember();
        return now.writtenInAll() - before.writtenInAll();
    }

    public int speed(int d, int n) {
        if (!canTellSpeed(d, n)) {
            return WHY_NOT;
        }
        before.copyFrom(now);
        now.drives.speed[d] = n;
        remember();
        return before.drives.speed[d];
    }

    public int wants(int w, int n) {
        if (!canTellWants(w, n)) {
            return WHY_NOT;
        }
        before.copyFrom(now);
        now.wanted[w] = n;
        remember();
        return before.wanted[w];
    }

    public int undo(int n) {
        if (!isWithin(n, 1, UNDOS) || n > pastSize) {
            return BAD_NUMBER;
        }
        pastSize -= n;
        now.copyFrom(past[(pastFirst + pastSize) % UNDOS]);
        return pastSize;
    }

    public int judge(int tray, int what) {
        if (!isTray(tray) || !isWithin(what, 0, 3)) {
            return NO_SUCH;
        }
        if (trays[tray].missing) {
            return MISSING;
        }
        going.copyFrom(now);
        int done = doAll(going, trays[tray]);
        boolean all = done == trays[tray].size;
        switch (what) {
            case 0:
                return all ? NONE : done;
            case 1:
                return all ? 0 : 1;
            case 2:
                return going.all;
            default:
                return going.tick;
        }
    }

    public int perform(int tray) {
        if (!isTray(tray)) {
            return NO_SUCH;
        }
        if (trays[tray].missing) {
            return MISSING;
        }
        before.copyFrom(now);
        int done = doAll(now, trays[tray]);
        if (done > 0) {
            remember();
        }
        return done;
    }

    public int load(int seed, int times) {
        if (!isWithin(times, 1, LOADS)) {
            return BAD_NUMBER;
        }
        drawn = seed;
        before.copyFrom(now);
        int done = 0;
        for (int i = 0; i < times; i++) {
            if (doDeed(now, drawDeed())) {
                done++;
            }
        }
        if (done > 0) {
            remember();
        }
        return done;
    }

    // ---- going

    public int later(int n, int what) {
        if (!isWithin(what, 0, 4)) {
            return NO_SUCH;
        }
        if (!isWithin(n, 0, FAR)) {
            return BAD_NUMBER;
        }
        goOn(n);
        switch (what) {
            case 0:
                return going.all;
            case 1:
                return going.dirtyInAll();
            case 2:
                return going.all - going.dirtyInAll();
            case 3:
                return going.writtenInAll() - now.writtenInAll();
            default:
                return going.madeInAll() - now.madeInAll();
        }
    }

    public int passes(int k) {
        if (!isWithin(k, 0, MAX_N)) {
            return BAD_NUMBER;
        }
        going.copyFrom(now);
        for (int i = 0; i <= FAR; i++) {
            if (going.all > k) {
                return i;
            }
            clock.run(going, 1);
        }
        return NONE;
    }

    public int oldest(int n) {
        if (!isWithin(n, 1, FAR)) {
            return BAD_NUMBER;
        }
        going.copyFrom(now);
        int oldest = NONE;
        for (int i = 0; i < n; i++) {
            clock.run(going, 1);
            for (int f = 0; f < told.files; f++) {
                oldest = Math.max(oldest, going.ageOf(f));
            }
        }
        return oldest;
    }

    public int drains() {
        going.copyFrom(now);
        going.quiet = true;
        for (int i = 0; i <= FAR; i++) {
            if (going.all == 0) {
                return i;
            }
            clock.run(going, 1);
        }
        return NONE;
    }

    public int written(int d, int k) {
        if (!isDevice(d)) {
            return NO_SUCH;
        }
        if (!isWithin(k, 1, 9999)) {
            return BAD_NUMBER;
        }
        going.copyFrom(now);
        int due = now.drives.wroteInAll[d] + k;
        for (int i = 1; i <= FAR; i++) {
            clock.run(going, 1);
            if (going.drives.wroteInAll[d] >= due) {
                return i;
            }
        }
        return NONE;
    }

    public int starved(int d, int n) {
        if (!isDevice(d)) {
            return NO_SUCH;
        }
        if (!isWithin(n, 1, FAR)) {
            return BAD_NUMBER;
        }
        going.copyFrom(now);
        int starved = 0;
        for (int i = 0; i < n; i++) {
            clock.run(going, 1);
            if (going.drives.inFlight[d] == 0 && going.drives.dirty[d] > 0) {
                starved++;
            }
        }
        return starved;
    }

    // ---- fair

    public long fair(int n, int what) {
        if (!isWithin(what, 0, 1)) {
            return NO_SUCH;
        }
        if (!isWithin(n, 1, FAR)) {
            return BAD_NUMBER;
        }
        goOn(n);
        long sum = 0;
        long squares = 0;
        for (int w = 0; w < told.writers; w++) {
            long v = going.made[w] - now.made[w];
            sum += v;
            squares += v * v;
        }
        return sum == 0 ? NONE : inLowestTerms(sum * sum, told.writers * squares, what);
    }

    public int most(int n, int what) {
        if (!isWithin(what, 0, 2)) {
            return NO_SUCH;
        }
        if (!isWithin(n, 1, FAR)) {
            return BAD_NUMBER;
        }
        if (told.writers == 0) {
            return NONE;
        }
        goOn(n);
        int best = 0;
        int greatest = going.made[0] - now.made[0];
        int fewest = greatest;
        for (int w = 1; w < told.writers; w++) {
            int v = going.made[w] - now.made[w];
            if (v > greatest) {
                greatest = v;
                best = w;
            }
            fewest = Math.min(fewest, v);
        }
        if (what == 0) {
            return best;
        }
        return what == 1 ? greatest : fewest;
    }

    public int held(int n) {
        if (!isWithin(n, 1, FAR)) {
            return BAD_NUMBER;
        }
        goOn(n);
        return going.heldInAll() - now.heldInAll();
    }

    public int enough(int n) {
        if (!isWithin(n, 1, NEAR)) {
            return BAD_NUMBER;
        }
        for (int limit = told.background + 1; limit <= MAX_N; limit++) {
            going.copyFrom(now);
            going.limit = limit;
            if (nobodyIsHeld(n)) {
                return limit;
            }
        }
        return NONE;
    }

    public int bears(int w, int n) {
        if (!isWriter(w)) {
            return NO_SUCH;
        }
        if (!isWithin(n, 1, NEAR)) {
            return BAD_NUMBER;
        }
        for (int v = MAX_WANTS; v >= 0; v--) {
            going.copyFrom(now);
            going.wanted[w] = v;
            if (isNeverHeld(w, n)) {
                return v;
            }
        }
        return NONE;
    }

    // ---- wrote

    public int speeds(int tray, int d, int what) {
        if (!isTray(tray) || !isDevice(d) || !isWithin(what, 0, 2)) {
            return NO_SUCH;
        }
        Tray wrote = trays[tray];
        if (wrote.missing) {
            return MISSING;
        }
        if (!isWithin(wrote.size, 1, WROTE_SPANS)) {
            return TOO_MANY;
        }
        if (wrote.hasBelowZero()) {
            return BAD_NUMBER;
        }
        int many = 0;
        int least = NONE;
        int greatest = NONE;
        for (int v = 0; v <= MAX_N; v++) {
            if (fits(wrote, d, v)) {
                many++;
                least = least == NONE ? v : least;
                greatest = v;
            }
        }
        if (what == 0) {
            return many;
        }
        return what == 1 ? least : greatest;
    }

    public int busiest(int d) {
        if (!isDevice(d)) {
            return NO_SUCH;
        }
        going.copyFrom(now);
        int best = 0;
        int greatest = 0;
        for (int span = 0; span < BUSY_SPANS; span++) {
            int wrote = wroteInSpan(d);
            if (wrote > greatest) {
                greatest = wrote;
                best = span;
            }
        }
        return best;
    }

    // ---- stalls

    public int chance(int k, int n, int what) {
        if (!isWithin(what, 0, 1)) {
            return NO_SUCH;
        }
        if (!isWithin(k, 1, 1000) || !isWithin(n, 1, STALL_SPANS)) {
            return BAD_NUMBER;
        }
        int likely = 0;
        int ways = power(told.devices + 1, n);
        for (int way = 0; way < ways; way++) {
            int weight = goStalled(way, n);
            if (going.all < k) {
                likely += weight;
            }
        }
        return (int) inLowestTerms(likely, power(LOTS, n), what);
    }

    public int mean(int n, int what) {
        if (!isWithin(what, 0, 1)) {
            return NO_SUCH;
        }
        if (!isWithin(n, 1, STALL_SPANS)) {
            return BAD_NUMBER;
        }
        int sum = 0;
        int ways = power(told.devices + 1, n);
        for (int way = 0; way < ways; way++) {
            int weight = goStalled(way, n);
            sum += weight * going.all;
        }
        return (int) inLowestTerms(sum, power(LOTS, n), what);
    }

    // ---- trays, images

    public int numbers(int tray, int sort, int n) {
        if (!isTray(tray) || !isWithin(sort, 0, SORTS - 1)) {
            return NO_SUCH;
        }
        if (!isWithin(n, 0, PLACES)) {
            return BAD_NUMBER;
        }
        trays[tray].begin(sort, n);
        return 0;
    }

    public long write(int tray, int i, long v) {
        if (!isTray(tray)) {
            return NO_SUCH;
        }
        if (trays[tray].missing) {
            return MISSING;
        }
        if (!isWithin(i, 0, trays[tray].size - 1)) {
            return NO_PLACE;
        }
        trays[tray].put(i, v);
        return trays[tray].values[i];
    }

    public int lists(int tray, int d) {
        if (!isTray(tray) || !isDevice(d)) {
            return NO_SUCH;
        }
        Tray list = trays[tray];
        if (list.missing) {
            return MISSING;
        }
        going.copyFrom(now);
        for (int i = 0; i < list.size; i++) {
            list.put(i, wroteInSpan(d));
        }
        return list.size;
    }

    public int image(int i) {
        if (!isWithin(i, 0, IMAGES - 1)) {
            return NO_SUCH;
        }
        imageHosts[i].copyFrom(told);
        imageStates[i].copyFrom(now);
        imageMade[i] = true;
        return 0;
    }

    public int restore(int i) {
        if (!isWithin(i, 0, IMAGES - 1)) {
            return NO_SUCH;
        }
        if (!imageMade[i]) {
            return NOT_NOW;
        }
        told.copyFrom(imageHosts[i]);
        clock.forgetLaws();
        now.copyFrom(imageStates[i]);
        pastSize = 0;
        return 0;
    }

    public int count(int what) {
        switch (what) {
            case 0:
                return told.devices;
            case 1:
                return told.files;
            case 2:
                return told.writers;
            case 3:
                return now.tick;
            case 4:
                return now.all;
            case 5:
                return now.dirtyInAll();
            case 6:
                return now.madeInAll();
            case 7:
                return now.writtenInAll();
            case 8:
                return pastSize;
            case 9:
                return taped;
            case 10:
                return told.lines;
            default:
                return NONE;
        }
    }

    // ---- what the calls share

    private static boolean isWithin(int n, int least, int greatest) {
        return n >= least && n <= greatest;
    }

    private static boolean isTray(int tray) {
        return tray >= 0 && tray < TRAYS;
    }

    private boolean isDevice(int d) {
        return d >= 0 && d < told.devices;
    }

    private boolean isWriter(int w) {
        return w >= 0 && w < told.writers;
    }

    private boolean canTellSpeed(int d, int n) {
        return isDevice(d) && isWithin(n, 0, MAX_N);
    }

    private boolean canTellWants(int w, int n) {
        return isWriter(w) && isWithin(n, 0, MAX_WANTS);
    }

    private void layOnTape(int bytes) {
        for (int shift = 24; shift >= 0 && taped < TAPE; shift -= 8) {
            tape[taped] = (byte) (bytes >> shift);
            taped++;
        }
    }

    /** Keeps what was before a call that did some; the eldest makes room. */
    private void remember() {
        if (pastSize == UNDOS) {
            pastFirst = (pastFirst + 1) % UNDOS;
            pastSize--;
        }
        past[(pastFirst + pastSize) % UNDOS].copyFrom(before);
        pastSize++;
    }

    private int doAll(State s, Tray deeds) {
        for (int i = 0; i < deeds.size; i++) {
            if (!doDeed(s, deeds.values[i])) {
                return i;
            }
        }
        return deeds.size;
    }

    private boolean doDeed(State s, long v) {
        if (v >= 1 && v <= 99) {
            clock.run(s, (int) v);
            return true;
        }
        if (v >= 10000 && v <= 13999) {
            int rest = (int) v - 10000;
            if (!canTellSpeed(rest / 1000, rest % 1000)) {
                return false;
            }
            s.drives.speed[rest / 1000] = rest % 1000;
            return true;
        }
        if (v >= 20000 && v <= 20599) {
            int rest = (int) v - 20000;
            if (!canTellWants(rest / 100, rest % 100)) {
                return false;
            }
            s.wanted[rest / 100] = rest % 100;
            return true;
        }
        return false;
    }

    private int draw() {
        drawn = 1103515245 * drawn + 12345;
        return drawn >>> 16;
    }

    private int drawDeed() {
        int sort = draw() % 4;
        if (sort < 2) {
            return 1 + draw() % 9;
        }
        if (sort == 2) {
            int d = draw() % 4;
            return 10000 + 1000 * d + draw() % 1000;
        }
        int w = draw() % 6;
        return 20000 + 100 * w + draw() % 20;
    }

    private void goOn(int n) {
        going.copyFrom(now);
        clock.run(going, n);
    }

    private boolean nobodyIsHeld(int n) {
        int held = now.heldInAll();
        for (int i = 0; i < n; i++) {
            clock.run(going, 1);
            if (going.heldInAll() != held) {
                return false;
            }
        }
        return true;
    }

    private boolean isNeverHeld(int w, int n) {
        for (int i = 0; i < n; i++) {
            clock.run(going, 1);
            if (going.heldTimes[w] != now.heldTimes[w]) {
                return false;
            }
        }
        return true;
    }

    private int wroteInSpan(int d) {
        int start = going.drives.wroteInAll[d];
        clock.run(going, SPAN);
        return going.drives.wroteInAll[d] - start;
    }

    private boolean fits(Tray wrote, int d, int speed) {
        going.copyFrom(now);
        going.drives.speed[d] = speed;
        going.lawless = d;
        for (int i = 0; i < wrote.size; i++) {
            if (wroteInSpan(d) != wrote.values[i]) {
                return false;
            }
        }
        return true;
    }

    /**
     * Goes n spans; the digits of way, to the base of one more than there are devices, tell who
     * stalls in each. All lots that stall nobody are one digit: the answer is how many of the
     * equally likely draws this way stands for.
     */
    private int goStalled(int way, int n) {
        going.copyFrom(now);
        int base = told.devices + 1;
        int left = way;
        int weight = 1;
        for (int span = 0; span < n; span++) {
            int lot = left % base;
            left = left / base;
            if (lot < told.devices) {
                going.stalled = lot;
            } else {
                going.stalled = NONE;
                weight *= LOTS - told.devices;
            }
            clock.run(going, SPAN);
        }
        return weight;
    }

    private static int power(int base, int n) {
        int power = 1;
        for (int i = 0; i < n; i++) {
            power *= base;
        }
        return power;
    }

    /** The number above (what 0) or below of a fraction whose number below is above 0. */
    private static long inLowestTerms(long above, long below, int what) {
        long a = above;
        long b = below;
        // Euclid's steps on longs stay below a hundred.
        for (int i = 0; i < 100 && b != 0; i++) {
            long rest = a % b;
            a = b;
            b = rest;
        }
        long common = a > 0 ? a : 1;
        return what == 0 ? above / common : below / common;
    }

    /** Both laws as code, in the order in which their parts are reckoned; an empty one is none. */
    private static final class Laws {
        final int[] code = new int[TAPE];
        int length = 0;
        int wantsFrom = 0;
        int wantsTo = 0;
        int speedFrom = 0;
        int speedTo = 0;

        void clear() {
            length = 0;
            wantsFrom = 0;
            wantsTo = 0;
            speedFrom = 0;
            speedTo = 0;
        }

        void copyFrom(Laws other) {
            System.arraycopy(other.code, 0, code, 0, TAPE);
            length = other.length;
            wantsFrom = other.wantsFrom;
            wantsTo = other.wantsTo;
            speedFrom = other.speedFrom;
            speedTo = other.speedTo;
        }

        void append(int item) {
            if (length < code.length) {
                code[length] = item;
                length++;
            }
        }

        /** What was appended from a place on is a law, in place of one that was told earlier. */
        void enact(boolean ofWants, int from) {
            if (ofWants) {
                wantsFrom = from;
                wantsTo = length;
            } else {
                speedFrom = from;
                speedTo = length;
            }
        }
    }

    /** What the text tells; as made it is the host without a text. */
    private static final class Host {
        int limit = 100;
        int background = 10;
        int age = 30;
        int longest = 20;
        int window = 10;
        int chunk = 4;
        int queue = 8;
        int devices = 0;
        int files = 0;
        int writers = 0;
        int lines = 0;
        final int[] speeds = new int[DEVICES];
        final int[] writersOn = new int[DEVICES];
        final int[] deviceOfFile = new int[FILES];
        final int[] fileOfWriter = new int[WRITERS];
        final int[] deviceOfWriter = new int[WRITERS];
        final int[] wanted = new int[WRITERS];
        final Laws laws = new Laws();

        void clear() {
            devices = 0;
            files = 0;
            writers = 0;
            lines = 0;
            Arrays.fill(writersOn, 0);
            laws.clear();
        }

        void copyFrom(Host other) {
            limit = other.limit;
            background = other.background;
            age = other.age;
            longest = other.longest;
            window = other.window;
            chunk = other.chunk;
            queue = other.queue;
            devices = other.devices;
            files = other.files;
            writers = other.writers;
            lines = other.lines;
            System.arraycopy(other.speeds, 0, speeds, 0, DEVICES);
            System.arraycopy(other.writersOn, 0, writersOn, 0, DEVICES);
            System.arraycopy(other.deviceOfFile, 0, deviceOfFile, 0, FILES);
            System.arraycopy(other.fileOfWriter, 0, fileOfWriter, 0, WRITERS);
            System.arraycopy(other.deviceOfWriter, 0, deviceOfWriter, 0, WRITERS);
            System.arraycopy(other.wanted, 0, wanted, 0, WRITERS);
            laws.copyFrom(other.laws);
        }

        void addDevice(int speed) {
            if (devices < DEVICES) {
                speeds[devices] = speed;
                devices++;
            }
        }

        void addFile(int d) {
            if (files < FILES && d < devices) {
                deviceOfFile[files] = d;
                files++;
            }
        }

        void addWriter(int f, int wants) {
            if (writers < WRITERS && f < files) {
                fileOfWriter[writers] = f;
                deviceOfWriter[writers] = deviceOfFile[f];
                wanted[writers] = wants;
                writersOn[deviceOfFile[f]]++;
                writers++;
            }
        }
    }

    /** Reads a text into a host, up to the first fault. */
    private static final class Reader {
        private static final String SIGNS = ";:+-*()[]=<>";
        private static final int END = 0;
        private static final int WORD = 1;
        private static final int NUMBER = 2;
        private static final int SIGN = 3;
        private static final int WRONG = 4;
        private static final int DEEPEST = 6;
        private static final int DIGITS = 3;

        int fault = 0;
        int place = NONE;
        private final byte[] text;
        private final Host into;
        private int length = 0;
        private int kind = END;
        private int start = 0;
        private int stop = 0;
        private int number = 0;
        private int taken = 0;
        private int depth = 0;
        private boolean inWants = false;

        Reader(byte[] text, Host into) {
            this.text = text;
            this.into = into;
        }

        boolean readText(int n) {
            length = Math.min(n, text.length);
            fault = 0;
            place = NONE;
            stop = 0;
            depth = 0;
            into.clear();
            advance();
            boolean sound = readHead();
            // A line takes two bytes at the least, so this bound is never what ends it.
            for (int i = 0; i < TAPE && sound && kind != END; i++) {
                sound = readLine();
            }
            return sound;
        }

        private boolean readHead() {
            if (!takeWord("host") || !takeWord("limit") || !takeNumber(1, MAX_N)) {
                return false;
            }
            into.limit = taken;
            if (!takeWord("background") || !takeNumber(0, into.limit - 1)) {
                return false;
            }
            into.background = taken;
            if (!takeWord("age") || !takeNumber(1, MAX_N)) {
                return false;
            }
            into.age = taken;
            if (!takeWord("pause") || !takeNumber(1, MAX_N)) {
                return false;
            }
            into.longest = taken;
            if (!takeWord("window") || !takeNumber(1, MAX_N)) {
                return false;
            }
            into.window = taken;
            if (!takeWord("chunk") || !takeNumber(1, 99)) {
                return false;
            }
            into.chunk = taken;
            if (!takeWord("queue") || !takeNumber(1, 99)) {
                return false;
            }
            into.queue = taken;
            into.lines = 1;
            return takeSign(';');
        }

        private boolean readLine() {
            boolean sound;
            if (isWord("device")) {
                sound = readDevice();
            } else if (isWord("file")) {
                sound = readFile();
            } else if (isWord("writer")) {
                sound = readWriter();
            } else if (isWord("wants")) {
                sound = readLaw(true);
            } else if (isWord("speed")) {
                sound = readLaw(false);
            } else {
                sound = refuse(2);
            }
            into.lines++;
            return sound && takeSign(';');
        }

        private boolean readDevice() {
            if (into.devices >= DEVICES) {
                return refuse(4);
            }
            advance();
            if (!takeWord("speed") || !takeNumber(0, MAX_N)) {
                return false;
            }
            into.addDevice(taken);
            return true;
        }

        private boolean readFile() {
            if (into.files >= FILES) {
                return refuse(4);
            }
            advance();
            if (!takeWord("on") || !takeNumber(0, into.devices - 1)) {
                return false;
            }
            into.addFile(taken);
            return true;
        }

        private boolean readWriter() {
            if (into.writers >= WRITERS) {
                return refuse(4);
            }
            advance();
            if (!takeWord("to") || !takeNumber(0, into.files - 1)) {
                return false;
            }
            int f = taken;
            if (!takeWord("wants") || !takeNumber(0, MAX_WANTS)) {
                return false;
            }
            into.addWriter(f, taken);
            return true;
        }

        private boolean readLaw(boolean ofWants) {
            int from = into.laws.length;
            inWants = ofWants;
            advance();
            if (!takeSign(':') || !readSum()) {
                return false;
            }
            into.laws.enact(ofWants, from);
            return true;
        }

        private boolean readSum() {
            boolean sound = readTerm();
            for (int i = 0; i < TAPE && sound && (isSign('+') || isSign('-')); i++) {
                int item = isSign('+') ? PLUS : MINUS;
                advance();
                sound = readTerm();
                into.laws.append(item);
            }
            return sound;
        }

        private boolean readTerm() {
            boolean sound = readAtom();
            for (int i = 0; i < TAPE && sound && isSign('*'); i++) {
                advance();
                sound = readAtom();
                into.laws.append(BY);
            }
            return sound;
        }

        private boolean readAtom() {
            if (isSign('(')) {
                if (!goDeeper() || !readSum()) {
                    return false;
                }
                depth--;
                return takeSign(')');
            }
            if (isWord("if")) {
                return readChoice();
            }
            int item = itemOfAtom();
            if (item == NONE) {
                return refuse(2);
            }
            into.laws.append(item);
            advance();
            return true;
        }

        private int itemOfAtom() {
            if (kind == NUMBER) {
                return number;
            }
            if (isWord("time")) {
                return TIME;
            }
            if (isWord("told")) {
                return TOLD;
            }
            if (isWord("device")) {
                return DEVICE;
            }
            return inWants && isWord("writer") ? WRITER : NONE;
        }

        private boolean readChoice() {
            if (!goDeeper() || !readTruth() || !takeWord("then") || !readSum()) {
                return false;
            }
            if (!takeWord("else") || !readSum() || !takeWord("end")) {
                return false;
            }
            depth--;
            into.laws.append(CHOOSE);
            return true;
        }

        private boolean readTruth() {
            boolean sound = readBoth();
            for (int i = 0; i < TAPE && sound && isWord("or"); i++) {
                advance();
                sound = readBoth();
                into.laws.append(OR);
            }
            return sound;
        }

        private boolean readBoth() {
            boolean sound = readUnit();
            for (int i = 0; i < TAPE && sound && isWord("and"); i++) {
                advance();
                sound = readUnit();
                into.laws.append(AND);
            }
            return sound;
        }

        private boolean readUnit() {
            if (isWord("not")) {
                if (!goDeeper() || !readUnit()) {
                    return false;
                }
                depth--;
                into.laws.append(NOT);
                return true;
            }
            if (isSign('[')) {
                if (!goDeeper() || !readTruth()) {
                    return false;
                }
                depth--;
                return takeSign(']');
            }
            return readCompared();
        }

        private boolean readCompared() {
            if (!readSum()) {
                return false;
            }
            int item = isSign('=') ? EQUAL : isSign('<') ? LESS : isSign('>') ? MORE : NONE;
            if (item == NONE) {
                return refuse(2);
            }
            advance();
            boolean sound = readSum();
            into.laws.append(item);
            return sound;
        }

        /** Steps behind a token that opens a level, if there may be one more. */
        private boolean goDeeper() {
            if (depth >= DEEPEST) {
                return refuse(4);
            }
            depth++;
            advance();
            return true;
        }

        private boolean takeWord(String word) {
            if (!isWord(word)) {
                return refuse(2);
            }
            advance();
            return true;
        }

        private boolean takeSign(char sign) {
            if (!isSign(sign)) {
                return refuse(2);
            }
            advance();
            return true;
        }

        private boolean takeNumber(int least, int greatest) {
            if (kind != NUMBER) {
                return refuse(2);
            }
            if (number < least || number > greatest) {
                return refuse(3);
            }
            taken = number;
            advance();
            return true;
        }

        /** A wrong token is fault 1 wherever it stands: it is the least kind. */
        private boolean refuse(int why) {
            fault = kind == WRONG ? 1 : why;
            place = start;
            return false;
        }

        private boolean isWord(String word) {
            if (kind != WORD || word.length() != stop - start) {
                return false;
            }
            for (int i = 0; i < word.length(); i++) {
                if (text[start + i] != word.charAt(i)) {
                    return false;
                }
            }
            return true;
        }

        private boolean isSign(char sign) {
            return kind == SIGN && text[start] == sign;
        }

        private void advance() {
            start = stop;
            for (int i = 0; i < TAPE && start < length && isBlank(text[start]); i++) {
                start++;
            }
            stop = start;
            number = 0;
            if (start >= length) {
                kind = END;
            } else if (isLetter(text[start])) {
                for (int i = start; i < length && isLetter(text[i]); i++) {
                    stop = i + 1;
                }
                kind = WORD;
            } else if (isDigit(text[start])) {
                for (int i = start; i < length && isDigit(text[i]); i++) {
                    // Wraps for a long row of digits; such a row is wrong anyway.
                    number = number * 10 + text[i] - '0';
                    stop = i + 1;
                }
                kind = stop - start > DIGITS ? WRONG : NUMBER;
            } else {
                stop = start + 1;
                kind = text[start] > 0 && SIGNS.indexOf((char) text[start]) >= 0 ? SIGN : WRONG;
            }
        }

        private static boolean isBlank(byte b) {
            return b == 10 || b == 32;
        }

        private static boolean isLetter(byte b) {
            return b >= 'a' && b <= 'z';
        }

        private static boolean isDigit(byte b) {
            return b >= '0' && b <= '9';
        }
    }

    /** What there is of each device. */
    private static final class Drives {
        final int[] speed = new int[DEVICES];
        final int[] inFlight = new int[DEVICES];
        final int[] dirty = new int[DEVICES];
        final int[] credit = new int[DEVICES];
        final double[] estimate = new double[DEVICES];
        final int[] counted = new int[DEVICES];
        final int[] wroteInAll = new int[DEVICES];
        final int[] wroteInWindow = new int[DEVICES];
        final int[] takenByTurn = new int[DEVICES];

        void begin(Host host) {
            Arrays.fill(inFlight, 0);
            Arrays.fill(dirty, 0);
            Arrays.fill(credit, 0);
            Arrays.fill(counted, 0);
            Arrays.fill(wroteInAll, 0);
            Arrays.fill(wroteInWindow, 0);
            Arrays.fill(takenByTurn, NONE);
            for (int d = 0; d < DEVICES; d++) {
                speed[d] = host.speeds[d];
                estimate[d] = host.speeds[d];
            }
        }

        void copyFrom(Drives other) {
            System.arraycopy(other.speed, 0, speed, 0, DEVICES);
            System.arraycopy(other.inFlight, 0, inFlight, 0, DEVICES);
            System.arraycopy(other.dirty, 0, dirty, 0, DEVICES);
            System.arraycopy(other.credit, 0, credit, 0, DEVICES);
            System.arraycopy(other.estimate, 0, estimate, 0, DEVICES);
            System.arraycopy(other.counted, 0, counted, 0, DEVICES);
            System.arraycopy(other.wroteInAll, 0, wroteInAll, 0, DEVICES);
            System.arraycopy(other.wroteInWindow, 0, wroteInWindow, 0, DEVICES);
            System.arraycopy(other.takenByTurn, 0, takenByTurn, 0, DEVICES);
        }
    }

    /** All that ticks and deeds change, and what a question may suppose besides. */
    private static final class State {
        final Drives drives = new Drives();
        final int[] dirty = new int[FILES];
        final int[] since = new int[FILES];
        final int[] wanted = new int[WRITERS];
        final int[] pauseLeft = new int[WRITERS];
        final int[] lastPause = new int[WRITERS];
        final int[] made = new int[WRITERS];
        final int[] heldTimes = new int[WRITERS];
        int tick = 0;
        int all = 0;

        // Suppositions of a question: they die with the copy that they were made in.
        int limit = 0;
        int stalled = NONE;
        int lawless = NONE;
        boolean quiet = false;

        void begin(Host host) {
            drives.begin(host);
            Arrays.fill(dirty, 0);
            Arrays.fill(since, 0);
            System.arraycopy(host.wanted, 0, wanted, 0, WRITERS);
            Arrays.fill(pauseLeft, 0);
            Arrays.fill(lastPause, 0);
            Arrays.fill(made, 0);
            Arrays.fill(heldTimes, 0);
            tick = 0;
            all = 0;
            limit = host.limit;
            stalled = NONE;
            lawless = NONE;
            quiet = false;
        }

        void copyFrom(State other) {
            drives.copyFrom(other.drives);
            System.arraycopy(other.dirty, 0, dirty, 0, FILES);
            System.arraycopy(other.since, 0, since, 0, FILES);
            System.arraycopy(other.wanted, 0, wanted, 0, WRITERS);
            System.arraycopy(other.pauseLeft, 0, pauseLeft, 0, WRITERS);
            System.arraycopy(other.lastPause, 0, lastPause, 0, WRITERS);
            System.arraycopy(other.made, 0, made, 0, WRITERS);
            System.arraycopy(other.heldTimes, 0, heldTimes, 0, WRITERS);
            tick = other.tick;
            all = other.all;
            limit = other.limit;
            stalled = other.stalled;
            lawless = other.lawless;
            quiet = other.quiet;
        }

        int ageOf(int f) {
            return dirty[f] > 0 ? tick - since[f] : NONE;
        }

        int dirtyInAll() {
            return sumOf(drives.dirty);
        }

        int writtenInAll() {
            return sumOf(drives.wroteInAll);
        }

        int madeInAll() {
            return sumOf(made);
        }

        int heldInAll() {
            return sumOf(heldTimes);
        }

        private static int sumOf(int[] row) {
            int sum = 0;
            for (int i = 0; i < row.length; i++) {
                sum += row[i];
            }
            return sum;
        }
    }

    /** Tells what the laws say, each answer reckoned once for a time and a told number. */
    private static final class Oracle {
        private static final int UNKNOWN = -1;
        private static final int KEPT = 1000000;
        private static final int STACK = 100;

        private final Host host;
        private final int[] answers = new int[(WRITERS + DEVICES) * TIMES];
        private final int[] toldThen = new int[WRITERS + DEVICES];
        private final int[] stack = new int[STACK];

        Oracle(Host host) {
            this.host = host;
            Arrays.fill(answers, UNKNOWN);
        }

        void forget() {
            Arrays.fill(answers, UNKNOWN);
        }

        int wantedBy(State s, int w) {
            int told = s.wanted[w];
            Laws laws = host.laws;
            if (laws.wantsFrom == laws.wantsTo) {
                return told;
            }
            int cell = cellOf(w, told, s.tick);
            if (answers[cell] == UNKNOWN) {
                int d = host.deviceOfWriter[w];
                int sum = reckon(laws.wantsFrom, laws.wantsTo, s.tick, told, d, w);
                answers[cell] = Math.max(0, Math.min(MAX_WANTS, sum));
            }
            return answers[cell];
        }

        int speedOf(State s, int d) {
            int told = s.drives.speed[d];
            Laws laws = host.laws;
            if (laws.speedFrom == laws.speedTo || s.lawless == d) {
                return told;
            }
            int cell = cellOf(WRITERS + d, told, s.tick);
            if (answers[cell] == UNKNOWN) {
                int sum = reckon(laws.speedFrom, laws.speedTo, s.tick, told, d, 0);
                answers[cell] = Math.max(0, Math.min(MAX_N, sum));
            }
            return answers[cell];
        }

        /** The cell of a row and a tick; a row told another number is known no more. */
        private int cellOf(int row, int told, int tick) {
            if (toldThen[row] != told) {
                toldThen[row] = told;
                for (int time = 0; time < TIMES; time++) {
                    answers[row * TIMES + time] = UNKNOWN;
                }
            }
            return row * TIMES + tick % TIMES;
        }

        private int reckon(int from, int to, int tick, int told, int device, int writer) {
            int[] code = host.laws.code;
            int top = 0;
            for (int i = from; i < to && i < code.length; i++) {
                int item = code[i];
                if (item == CHOOSE && top >= 3) {
                    top -= 2;
                    stack[top - 1] = stack[top - 1] != 0 ? stack[top] : stack[top + 1];
                } else if (item == NOT && top >= 1) {
                    stack[top - 1] = 1 - stack[top - 1];
                } else if (item >= PLUS && top >= 2) {
                    top--;
                    stack[top - 1] = kept(join(item, stack[top - 1], stack[top]));
                } else if (top < STACK) {
                    stack[top] = item == TIME ? tick % TIMES
                            : item == TOLD ? told
                            : item == DEVICE ? device
                            : item == WRITER ? writer
                            : item;
                    top++;
                }
            }
            return top > 0 ? stack[0] : 0;
        }

        private static long join(int item, long a, long b) {
            switch (item) {
                case PLUS:
                    return a + b;
                case MINUS:
                    return a - b;
                case BY:
                    return a * b;
                case EQUAL:
                    return a == b ? 1 : 0;
                case LESS:
                    return a < b ? 1 : 0;
                case MORE:
                    return a > b ? 1 : 0;
                case AND:
                    return a & b;
                default:
                    return a | b;
            }
        }

        private static int kept(long v) {
            if (v < -KEPT) {
                return -KEPT;
            }
            return v > KEPT ? KEPT : (int) v;
        }
    }

    /** Lets ticks pass over a state of the host. */
    private static final class Clock {
        private final Host host;
        private final Oracle oracle;

        Clock(Host host) {
            this.host = host;
            this.oracle = new Oracle(host);
        }

        void forgetLaws() {
            oracle.forget();
        }

        void run(State s, int n) {
            int writers = s.quiet ? 0 : host.writers;
            for (int i = 0; i < n; i++) {
                s.tick++;
                writeOut(s);
                if (host.window > 0 && s.tick % host.window == 0) {
                    closeWindow(s);
                }
                for (int d = 0; d < host.devices; d++) {
                    fillQueue(s, d);
                }
                for (int w = 0; w < writers; w++) {
                    serve(s, (s.tick + w) % writers);
                }
            }
        }

        private void writeOut(State s) {
            Drives drives = s.drives;
            for (int d = 0; d < host.devices; d++) {
                if (s.stalled != d) {
                    drives.credit[d] += oracle.speedOf(s, d);
                }
                int n = Math.min(drives.credit[d] / 100, drives.inFlight[d]);
                drives.inFlight[d] -= n;
                drives.credit[d] = drives.inFlight[d] == 0 ? 0 : drives.credit[d] - 100 * n;
                drives.wroteInAll[d] += n;
                drives.wroteInWindow[d] += n;
                s.all -= n;
            }
        }

        private void closeWindow(State s) {
            Drives drives = s.drives;
            for (int d = 0; d < host.devices; d++) {
                int w = drives.wroteInWindow[d];
                drives.counted[d] = drives.counted[d] / 2 + w;
                if (w > 0 || drives.inFlight[d] > 0) {
                    double estimate = drives.estimate[d];
                    drives.estimate[d] = estimate + (w * 100.0 / host.window - estimate) / 8.0;
                }
                drives.wroteInWindow[d] = 0;
            }
        }

        private void fillQueue(State s, int d) {
            Drives drives = s.drives;
            for (int i = 0; i < host.queue && drives.inFlight[d] < host.queue; i++) {
                int f = oldestFile(s, d);
                if (f == NONE) {
                    f = fileInTurn(s, d);
                    if (f == NONE) {
                        return;
                    }
                    drives.takenByTurn[d] = f;
                }
                int n = Math.min(host.chunk, Math.min(s.dirty[f], host.queue - drives.inFlight[d]));
                s.dirty[f] -= n;
                drives.dirty[d] -= n;
                drives.inFlight[d] += n;
            }
        }

        boolean isOld(State s, int f) {
            return s.dirty[f] > 0 && s.tick - s.since[f] >= host.age;
        }

        int oldestFile(State s, int d) {
            int oldest = NONE;
            for (int f = 0; f < host.files; f++) {
                if (host.deviceOfFile[f] == d && isOld(s, f)
                        && (oldest == NONE || s.since[f] < s.since[oldest])) {
                    oldest = f;
                }
            }
            return oldest;
        }

        int fileInTurn(State s, int d) {
            if (s.all <= host.background || host.files <= 0) {
                return NONE;
            }
            int first = s.drives.takenByTurn[d] + 1;
            for (int i = 0; i < host.files; i++) {
                int f = (first + i) % host.files;
                if (host.deviceOfFile[f] == d && s.dirty[f] > 0) {
                    return f;
                }
            }
            return NONE;
        }

        private void serve(State s, int w) {
            if (s.pauseLeft[w] > 0) {
                s.pauseLeft[w]--;
                return;
            }
            int wanted = oracle.wantedBy(s, w);
            int x = Math.min(wanted, Math.max(0, s.limit - s.all));
            if (wanted > x) {
                s.heldTimes[w]++;
            }
            if (x == 0) {
                return;
            }
            int f = host.fileOfWriter[w];
            if (s.dirty[f] == 0) {
                s.since[f] = s.tick;
            }
            s.dirty[f] += x;
            s.drives.dirty[host.deviceOfWriter[w]] += x;
            s.all += x;
            s.made[w] += x;
            if (s.all > freeOf(s)) {
                s.lastPause[w] = (3 * s.lastPause[w] + pauseOf(s, w, x)) / 4;
                s.pauseLeft[w] = s.lastPause[w];
            }
        }

        int freeOf(State s) {
            return (host.background + s.limit) / 2;
        }

        int pauseOf(State s, int w, int x) {
            int free = freeOf(s);
            if (s.all <= free) {
                return 0;
            }
            int d = host.deviceOfWriter[w];
            // The set point lies half a page below the limit at least, so nothing divides by 0.
            double set = (free + s.limit) / 2.0;
            double g = (set - s.all) / (s.limit - set);
            double p = fromZeroToTwo(1.0 + g * g * g);
            double half = shareOf(s, d) / 2.0;
            int on = s.drives.dirty[d] + s.drives.inFlight[d];
            double q = fromZeroToTwo(1.0 + (half - on) / half);
            int many = Math.max(1, host.writersOn[d]);
            double rate = s.drives.estimate[d] / many * p * q;
            double pause = x * 100.0 / (rate >= 1.0 ? rate : 1.0);
            return pause >= host.longest ? host.longest : (int) pause;
        }

        private static double fromZeroToTwo(double v) {
            if (v < 0.0) {
                return 0.0;
            }
            return v > 2.0 ? 2.0 : v;
        }

        int shareOf(State s, int d) {
            int sum = 0;
            for (int i = 0; i < host.devices; i++) {
                sum += s.drives.counted[i];
            }
            int share = 0;
            if (sum > 0) {
                share = s.limit * s.drives.counted[d] / sum;
            } else if (host.devices > 0) {
                share = s.limit / host.devices;
            }
            return Math.max(1, share);
        }
    }

    /** A row of numbers of a sort, kept as they are once cut to it. */
    private static final class Tray {
        final long[] values = new long[PLACES];
        boolean missing = true;
        int sort = 0;
        int size = 0;

        void begin(int ofSort, int n) {
            missing = false;
            sort = ofSort;
            size = n;
            Arrays.fill(values, 0L);
        }

        void put(int i, long v) {
            switch (sort) {
                case 0:
                    values[i] = (byte) v;
                    break;
                case 1:
                    values[i] = (short) v;
                    break;
                case 2:
                    values[i] = (int) v;
                    break;
                default:
                    values[i] = v;
                    break;
            }
        }

        boolean hasBelowZero() {
            for (int i = 0; i < size; i++) {
                if (values[i] < 0) {
                    return true;
                }
            }
            return false;
        }
    }
}
