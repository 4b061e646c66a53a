import java.util.Arrays;

/**
 * The hall that answers: benches whisper to one another across a hall of cells. What each call does
 * stands in ../shared/DOC.md; words in capitals in the comments are that document's terms.
 */
public final class HallAnswers {
    public static final int BAD = -1, STATE = -2, FULL = -3, NONE = -4;

    /** A CELL's number is ROW times y and x, however wide the hall is. */
    private static final int ROW = 9;
    private static final int ALL_CELLS = 81;
    private static final int FREE = 0, PILLAR = 1, CURTAIN = 2;
    private static final int DIRECTIONS = 8;
    private static final int MOST_BENCHES = 8;
    private static final int MOST_PEOPLE = 6;
    private static final int MOST_WANTS = 8;
    private static final int MOST_WHISPERS = 12;
    private static final int MOST_STEPS = 40;
    private static final int MOST_WARM = 9;
    private static final int SECRETS = 8;
    private static final int HOURS = 12;
    private static final int PLAIN = 0, TURNED = 1, MOVING = 2, RAISED = 3, LISTENING = 4;
    private static final int SHEETS = 4;
    private static final int LANES = 3;
    private static final int SHEET_CELLS = 40;
    private static final int NO_FAULT = 0, NULL_FAULT = 1, INDEX_FAULT = 2, CAST_FAULT = 3, SIZE_FAULT = 4;

    private final Told told = new Told();
    private final Told firstImage = new Told();
    private final Told secondImage = new Told();
    private int imagesKept = 0;
    private final TextReader reader = new TextReader();
    private final Hearing hearing = new Hearing();
    private final Gossip gossip = new Gossip();
    private final Seatings seatings = new Seatings();
    private final Sheets sheets = new Sheets();
    private int readFault = NO_FAULT;

    public HallAnswers() {
    }

    // ---- the text

    public int feed(long v) {
        return reader.tape.append(v);
    }

    public int end(int n) {
        if (!within(n, 0, reader.tape.length)) {
            return BAD;
        }
        int had = reader.tape.length;
        reader.tape.length = n;
        return had;
    }

    public int text() {
        int lines = reader.readLines();
        reader.tape.length = 0;
        if (reader.tape.fault != NO_FAULT) {
            return -10 - reader.tape.faultPlace;
        }
        told.copyAll(reader.draft);
        imagesKept = 0;
        return lines;
    }

    public int fault() {
        return reader.tape.fault;
    }

    public int rule(int what) {
        switch (what) {
            case 0: return told.wide;
            case 1: return told.high;
            case 2: return told.fade;
            case 3: return told.bounce;
            case 4: return told.warm;
            default: return BAD;
        }
    }

    public int cell(int c) {
        return told.isCell(c) ? told.stateOf(c) : BAD;
    }

    public int bench(int b, int hour, int what) {
        if (!isBench(b) || !isHour(hour)) {
            return BAD;
        }
        switch (what) {
            case 0: return told.benches.cellIn(b, hour, told.wide);
            case 1: return told.benches.facingIn(b, hour);
            case 2: return told.benches.earOf(b);
            case 3: return told.benches.kindOf(b);
            case 4: return told.sitterOn(b);
            default: return BAD;
        }
    }

    public int want(int i, int what) {
        return told.wants.part(i, what);
    }

    // ---- what is changed

    public int hang(int c, int what) {
        if (!told.isCell(c) || !within(what, FREE, CURTAIN)) {
            return BAD;
        }
        if (what != FREE && told.benches.anyPutOn(c)) {
            return STATE;
        }
        int was = told.stateOf(c);
        told.setState(c, what);
        return was;
    }

    public int warm(int v) {
        if (!within(v, 0, MOST_WARM)) {
            return BAD;
        }
        int was = told.warm;
        told.warm = v;
        return was;
    }

    public int sit(int p, int b) {
        if (!isOne(p) || !isBench(b)) {
            return BAD;
        }
        return told.seatOn(p, b);
    }

    // ---- a whisper's way

    public int way(int b, int hour, int i) {
        if (!isBench(b) || !isHour(hour) || !within(i, 0, MOST_STEPS)) {
            return BAD;
        }
        hearing.whisperFromBench(told, b, hour);
        return hearing.course.cellAt(i);
    }

    public int steps(int b, int hour) {
        if (!isBench(b) || !isHour(hour)) {
            return BAD;
        }
        hearing.whisperFromBench(told, b, hour);
        return hearing.course.length;
    }

    public int hears(int b, int c, int hour, int what) {
        if (!isBench(b) || !isBench(c) || b == c || !isHour(hour) || !within(what, 0, 2)) {
            return BAD;
        }
        hearing.whisperFromBench(told, b, hour);
        int step = hearing.stepOfHearing(told, c, hour);
        if (step == 0) {
            return NONE;
        }
        if (what == 0) {
            return hearing.course.loudAt(step);
        }
        return what == 1 ? step : hearing.course.bouncesAt(step);
    }

    public int heard(int b, int hour) {
        return isBench(b) && isHour(hour) ? hearing.hearersOf(told, b, hour) : BAD;
    }

    public int answer(int b, int hour) {
        if (!isBench(b) || !isHour(hour)) {
            return BAD;
        }
        int hearers = hearing.hearersOf(told, b, hour);
        for (int other = 0; other < told.benches.count; other++) {
            if (hearers == 1 << other) {
                return hearing.hearersOf(told, other, hour) == 1 << b ? other : NONE;
            }
        }
        return NONE;
    }

    // ---- seats

    public int can(int p, int q, int hour) {
        if (!isOne(p) || !isOne(q) || p == q || !isHour(hour)) {
            return BAD;
        }
        return bit(hearing.peopleHearing(told, p, hour), q);
    }

    public int broken(int hour) {
        return isHour(hour) ? hearing.brokenWants(told, hour) : BAD;
    }

    public int seating(int hour, int what) {
        boolean asksBench = what >= 10 && isOne(what - 10);
        if (!isHour(hour) || !within(what, 0, 1) && !asksBench) {
            return BAD;
        }
        seatings.search(told, hour);
        if (asksBench) {
            return seatings.benchInFirst(what - 10);
        }
        return what == 0 ? seatings.fewest : seatings.howMany;
    }

    public int curtain(int hour, int what) {
        return isHour(hour) && within(what, 0, 1) ? bestChange(hour, what, CURTAIN) : BAD;
    }

    public int clear(int hour, int what) {
        return isHour(hour) && within(what, 0, 1) ? bestChange(hour, what, FREE) : BAD;
    }

    public int hours() {
        int unbroken = 0;
        for (int hour = 0; hour < HOURS; hour++) {
            if (hearing.brokenWants(told, hour) == 0) {
                unbroken |= 1 << hour;
            }
        }
        return unbroken;
    }

    // ---- warm days

    public int days(int hour, int v, int what) {
        if (!isHour(hour) || !within(v, 0, MOST_WARM) || !within(what, 0, 2)) {
            return BAD;
        }
        int now = 0;
        int both = 0;
        int then = 0;
        for (int b = 0; b < told.benches.count; b++) {
            int hearersNow = hearing.hearersOf(told, b, hour);
            int hearersThen = hearersOnDay(b, hour, v);
            now += Integer.bitCount(hearersNow);
            both += Integer.bitCount(hearersNow & hearersThen);
            then += Integer.bitCount(hearersThen);
        }
        if (what == 0) {
            return now;
        }
        return what == 1 ? both : then - both;
    }

    public int best(int hour, int what) {
        if (!isHour(hour) || !within(what, 0, 1)) {
            return BAD;
        }
        int bestWarm = 0;
        int fewest = MOST_WANTS + 1;
        for (int v = 0; v <= MOST_WARM; v++) {
            int broken = brokenOnDay(hour, v);
            if (broken < fewest) {
                fewest = broken;
                bestWarm = v;
            }
        }
        return what == 0 ? bestWarm : fewest;
    }

    // ---- secrets

    public int say(int hour, int p, int secret) {
        return whisperMore(hour, p, secret);
    }

    public int unsay(int n) {
        if (!within(n, 0, told.whispers.count)) {
            return BAD;
        }
        int had = told.whispers.count;
        told.whispers.count = n;
        return had;
    }

    public int said(int i, int what) {
        if (!isWhisper(i) || !within(what, 0, 3)) {
            return BAD;
        }
        if (what < 3) {
            return told.whispers.part(i, what);
        }
        gossip.tellFirst(told, i);
        return gossip.tellOne(told, i);
    }

    public int knows(int p, int n) {
        if (!isOne(p) || !within(n, 0, told.whispers.count)) {
            return BAD;
        }
        gossip.tellFirst(told, n);
        return gossip.secretsOf(p);
    }

    public int since(int p, int secret) {
        if (!isOne(p) || !isSecret(secret)) {
            return BAD;
        }
        return gossip.firstKnownOutside(told, secret, ~(1 << p));
    }

    public int leak(int secret, int some, int what) {
        if (!isSecret(secret) || !areBitsBelow(some, told.people) || !within(what, 0, 2)) {
            return BAD;
        }
        int i = gossip.firstKnownOutside(told, secret, some);
        if (i == NONE || what == 0) {
            return i;
        }
        return what == 1 ? told.whispers.part(i, 1) : gossip.knowersOf(secret) & ~some;
    }

    public int without(int i) {
        if (!isWhisper(i)) {
            return BAD;
        }
        int secret = told.whispers.part(i, 2);
        gossip.tellFirst(told, told.whispers.count);
        int withIt = Integer.bitCount(gossip.knowersOf(secret));
        gossip.tellAllBut(told, i);
        int fewer = withIt - Integer.bitCount(gossip.knowersOf(secret));
        return fewer < 0 ? fewer - 100 : fewer;
    }

    public int murmur(int seed, int n, int hour) {
        if (!within(n, 1, MOST_WHISPERS) || !isHour(hour)) {
            return BAD;
        }
        if (told.people <= 0) {
            return STATE;
        }
        told.whispers.count = 0;
        int changing = seed;
        for (int i = 0; i < n; i++) {
            changing = nextSeed(changing);
            int p = drawnFrom(changing) % told.people;
            changing = nextSeed(changing);
            told.whispers.add(hour, p, drawnFrom(changing) % SECRETS);
        }
        return gossip.tellFirst(told, n);
    }

    // ---- where it was said

    public int from(int some, int hour) {
        if (!areBitsBelow(some, told.benches.count) || !isHour(hour)) {
            return BAD;
        }
        int sources = 0;
        for (int b = 0; b < told.benches.count; b++) {
            if (hearing.hearersOf(told, b, hour) == some) {
                sources |= 1 << b;
            }
        }
        return sources;
    }

    public int where(int some, int hour, int what) {
        if (!areBitsBelow(some, told.benches.count) || some == 0 || !isHour(hour) || !within(what, 0, 2)) {
            return BAD;
        }
        int cells = 0;
        int first = NONE;
        int firstDirection = NONE;
        for (int c = 0; c < ALL_CELLS; c++) {
            int direction = told.isFree(c) ? firstDirectionHeardBy(some, c, hour) : NONE;
            if (direction != NONE && cells == 0) {
                first = c;
                firstDirection = direction;
            }
            cells += direction == NONE ? 0 : 1;
        }
        if (what == 0) {
            return cells;
        }
        return what == 1 ? first : firstDirection;
    }

    // ---- images, sheets

    public int keep(int k) {
        if (!within(k, 0, 1)) {
            return BAD;
        }
        int was = bit(imagesKept, k);
        imageOf(k).copyChanging(told);
        imagesKept |= 1 << k;
        return was;
    }

    public int back(int k) {
        if (!within(k, 0, 1)) {
            return BAD;
        }
        if (bit(imagesKept, k) == 0) {
            return STATE;
        }
        told.copyChanging(imageOf(k));
        return told.whispers.count;
    }

    public int sheet(int k, int lane, int n) {
        if (!within(k, 0, SHEETS - 1) || !within(lane, 0, LANES - 1) || n > SHEET_CELLS) {
            return BAD;
        }
        if (n < 0) {
            return -10 - SIZE_FAULT;
        }
        sheets.renew(k, lane, n);
        return 1;
    }

    public int lay(int k, int i, int v) {
        if (!within(k, 0, SHEETS - 1)) {
            return BAD;
        }
        int found = sheets.faultOfCells(k, i, 1);
        if (found != NO_FAULT) {
            return -10 - found;
        }
        sheets.put(k, i, v);
        return 1;
    }

    public int read(int k, int lane, int f, int n) {
        if (!within(k, 0, SHEETS - 1) || !within(lane, 0, LANES - 1) || !within(n, 0, MOST_WHISPERS)) {
            return BAD;
        }
        int before = told.whispers.count;
        int came = 0;
        int found = n == 0 ? NO_FAULT : sheets.faultOfLane(k, lane);
        for (int i = 0; i < n && found == NO_FAULT; i++) {
            found = sheets.faultOfCells(k, f + 3 * i, 3);
            if (found == NO_FAULT) {
                if (whisperOfSheet(k, f + 3 * i) < 0) {
                    told.whispers.count = before;
                    return -20 - i;
                }
                came++;
            }
        }
        readFault = found;
        return came;
    }

    public int torn() {
        return readFault;
    }

    public int count(int what) {
        switch (what) {
            case 0: return told.benches.count;
            case 1: return told.people;
            case 2: return told.deafCells();
            case 3: return told.wants.count;
            case 4: return told.whispers.count;
            case 5: return Integer.bitCount(imagesKept);
            case 6: return reader.tape.length;
            case 7: return sheets.cellsOf(0);
            default: return BAD;
        }
    }

    // ---- what arguments may be

    private static boolean within(int v, int least, int most) {
        return v >= least && v <= most;
    }

    private static boolean isHour(int hour) {
        return within(hour, 0, HOURS - 1);
    }

    private static boolean isSecret(int secret) {
        return within(secret, 0, SECRETS - 1);
    }

    private boolean isBench(int b) {
        return within(b, 0, told.benches.count - 1);
    }

    private boolean isOne(int p) {
        return within(p, 0, told.people - 1);
    }

    private boolean isWhisper(int i) {
        return within(i, 0, told.whispers.count - 1);
    }

    private static boolean areBitsBelow(int bits, int n) {
        return within(bits, 0, (1 << n) - 1);
    }

    private static int bit(int bits, int i) {
        return bits >> i & 1;
    }

    // ---- parts of the calls above

    private Told imageOf(int k) {
        return k == 0 ? firstImage : secondImage;
    }

    private static int nextSeed(int seed) {
        return seed * 1103515245 + 12345;
    }

    private static int drawnFrom(int seed) {
        return seed >> 16 & 32767;
    }

    private int whisperMore(int hour, int p, int secret) {
        if (!isHour(hour) || hour < told.latestHour() || !isOne(p) || !isSecret(secret)) {
            return BAD;
        }
        if (told.whispers.count >= MOST_WHISPERS) {
            return FULL;
        }
        told.whispers.add(hour, p, secret);
        return told.whispers.count;
    }

    private int whisperOfSheet(int k, int i) {
        return whisperMore(sheets.valueAt(k, i), sheets.valueAt(k, i + 1), sheets.valueAt(k, i + 2));
    }

    /** A CURTAIN is tried on free CELLS without a BENCH; FREE is tried on DEAF ones. */
    private int bestChange(int hour, int what, int state) {
        int bestCell = NONE;
        int fewest = Integer.bitCount(hearing.brokenWants(told, hour));
        for (int c = 0; c < ALL_CELLS; c++) {
            if (mayBecome(c, state, hour)) {
                int was = told.stateOf(c);
                told.setState(c, state);
                int broken = Integer.bitCount(hearing.brokenWants(told, hour));
                told.setState(c, was);
                if (broken < fewest) {
                    fewest = broken;
                    bestCell = c;
                }
            }
        }
        return bestCell == NONE || what == 0 ? bestCell : fewest;
    }

    private boolean mayBecome(int c, int state, int hour) {
        if (state == FREE) {
            return told.isCell(c) && !told.isFree(c);
        }
        return told.isFree(c) && !told.anyBenchOn(c, hour);
    }

    private int brokenOnDay(int hour, int v) {
        int was = told.warm;
        told.warm = v;
        int broken = Integer.bitCount(hearing.brokenWants(told, hour));
        told.warm = was;
        return broken;
    }

    private int hearersOnDay(int b, int hour, int v) {
        int was = told.warm;
        told.warm = v;
        int hearers = hearing.hearersOf(told, b, hour);
        told.warm = was;
        return hearers;
    }

    private int firstDirectionHeardBy(int some, int c, int hour) {
        for (int direction = 0; direction < DIRECTIONS; direction++) {
            hearing.course.run(told, c, direction, false);
            if (hearing.hearersOfLatest(told, hour) == some) {
                return direction;
            }
        }
        return NONE;
    }

    /** The BENCHES as the text put them. */
    private static final class Benches {
        int count = 0;
        private final int[] xs = new int[MOST_BENCHES];
        private final int[] ys = new int[MOST_BENCHES];
        private final int[] facings = new int[MOST_BENCHES];
        private final int[] ears = new int[MOST_BENCHES];
        private final int[] kinds = new int[MOST_BENCHES];

        void add(int x, int y, int facing, int ear, int kind) {
            if (count < 0 || count >= MOST_BENCHES) {
                return;
            }
            xs[count] = x;
            ys[count] = y;
            facings[count] = facing;
            ears[count] = ear;
            kinds[count] = kind;
            count++;
        }

        void copyFrom(Benches other) {
            count = other.count;
            System.arraycopy(other.xs, 0, xs, 0, MOST_BENCHES);
            System.arraycopy(other.ys, 0, ys, 0, MOST_BENCHES);
            System.arraycopy(other.facings, 0, facings, 0, MOST_BENCHES);
            System.arraycopy(other.ears, 0, ears, 0, MOST_BENCHES);
            System.arraycopy(other.kinds, 0, kinds, 0, MOST_BENCHES);
        }

        private boolean exists(int b) {
            return b >= 0 && b < count && b < MOST_BENCHES;
        }

        boolean anyPutOn(int c) {
            for (int b = 0; b < count && b < MOST_BENCHES; b++) {
                if (ROW * ys[b] + xs[b] == c) {
                    return true;
                }
            }
            return false;
        }

        int cellIn(int b, int hour, int wide) {
            if (!exists(b)) {
                return NONE;
            }
            int x = kinds[b] == MOVING && wide > 0 ? (xs[b] + hour) % wide : xs[b];
            return ROW * ys[b] + x;
        }

        int facingIn(int b, int hour) {
            if (!exists(b)) {
                return NONE;
            }
            boolean turns = kinds[b] == TURNED || kinds[b] == MOVING;
            return turns ? (facings[b] + hour) % DIRECTIONS : facings[b];
        }

        int earOf(int b) {
            if (!exists(b)) {
                return NONE;
            }
            return kinds[b] == LISTENING ? Math.max(1, ears[b] / 2) : ears[b];
        }

        int kindOf(int b) {
            return exists(b) ? kinds[b] : NONE;
        }
    }

    /** Rows of three numbers: WANTS are who, whom, whether JOINED; WHISPERS are HOUR, ONE, SECRET. */
    private static final class Triples {
        /** There are fewer WANTS than WHISPERS. */
        private static final int MOST = MOST_WHISPERS;

        int count = 0;
        private final int[] firsts = new int[MOST];
        private final int[] seconds = new int[MOST];
        private final int[] thirds = new int[MOST];

        void add(int first, int second, int third) {
            if (count < 0 || count >= MOST) {
                return;
            }
            firsts[count] = first;
            seconds[count] = second;
            thirds[count] = third;
            count++;
        }

        void copyFrom(Triples other) {
            count = other.count;
            System.arraycopy(other.firsts, 0, firsts, 0, MOST);
            System.arraycopy(other.seconds, 0, seconds, 0, MOST);
            System.arraycopy(other.thirds, 0, thirds, 0, MOST);
        }

        int part(int i, int what) {
            if (i < 0 || i >= count || i >= MOST) {
                return BAD;
            }
            switch (what) {
                case 0: return firsts[i];
                case 1: return seconds[i];
                case 2: return thirds[i];
                default: return BAD;
            }
        }
    }

    /** All that a text tells. An IMAGE is one, too, of which only what calls can change is used. */
    private static final class Told {
        int wide;
        int high;
        int fade;
        int bounce;
        int warm;
        int people;
        private final int[] cells = new int[ALL_CELLS];
        private final int[] seats = new int[MOST_PEOPLE];
        final Benches benches = new Benches();
        final Triples wants = new Triples();
        final Triples whispers = new Triples();

        Told() {
            startAnew();
        }

        void startAnew() {
            wide = 9;
            high = 7;
            fade = 3;
            bounce = 5;
            warm = 0;
            people = 0;
            Arrays.fill(cells, FREE);
            for (int p = 0; p < MOST_PEOPLE; p++) {
                seats[p] = p;
            }
            benches.count = 0;
            wants.count = 0;
            whispers.count = 0;
        }

        void copyAll(Told other) {
            wide = other.wide;
            high = other.high;
            fade = other.fade;
            bounce = other.bounce;
            people = other.people;
            benches.copyFrom(other.benches);
            wants.copyFrom(other.wants);
            copyChanging(other);
        }

        void copyChanging(Told other) {
            System.arraycopy(other.cells, 0, cells, 0, ALL_CELLS);
            warm = other.warm;
            System.arraycopy(other.seats, 0, seats, 0, MOST_PEOPLE);
            whispers.copyFrom(other.whispers);
        }

        boolean isCell(int c) {
            return c >= 0 && c < ALL_CELLS && c % ROW < wide && c / ROW < high;
        }

        /** Also of CELLS outside the hall, which a text may tell before it is refused for them. */
        int stateOf(int c) {
            return c >= 0 && c < ALL_CELLS ? cells[c] : PILLAR;
        }

        void setState(int c, int state) {
            if (c >= 0 && c < ALL_CELLS) {
                cells[c] = state;
            }
        }

        boolean isFree(int c) {
            return isCell(c) && stateOf(c) == FREE;
        }

        int deafCells() {
            int deaf = 0;
            for (int c = 0; c < ALL_CELLS; c++) {
                deaf += stateOf(c) == FREE ? 0 : 1;
            }
            return deaf;
        }

        boolean anyBenchOn(int c, int hour) {
            for (int b = 0; b < benches.count; b++) {
                if (benches.cellIn(b, hour, wide) == c) {
                    return true;
                }
            }
            return false;
        }

        int latestHour() {
            return whispers.count > 0 ? whispers.part(whispers.count - 1, 0) : 0;
        }

        int seatOf(int p) {
            return p >= 0 && p < people && p < MOST_PEOPLE ? seats[p] : NONE;
        }

        int sitterOn(int b) {
            for (int p = 0; p < people; p++) {
                if (seatOf(p) == b) {
                    return p;
                }
            }
            return NONE;
        }

        int seatOn(int p, int b) {
            int other = sitterOn(b);
            int before = seatOf(p);
            if (within(other, 0, MOST_PEOPLE - 1)) {
                seats[other] = before;
            }
            if (within(p, 0, MOST_PEOPLE - 1)) {
                seats[p] = b;
            }
            return before;
        }
    }

    /** THE TAPE, and its TOKENS one by one till the first FAULT, behind which none is taken. */
    private static final class Tape {
        static final int NO_TOKEN = 0, NAME = 1, NUMBER = 2, SIGN = 3, END = 4;
        static final int SIZE = 320;
        private static final int MOST_FIGURES = 3;

        int length = 0;
        int token = END;
        int tokenStart = 0;
        int number = 0;
        int fault = NO_FAULT;
        int faultPlace = 0;
        private int next = 0;
        private final byte[] bytes = new byte[SIZE];

        int append(long v) {
            if (length < 0 || length > SIZE - 8) {
                return FULL;
            }
            for (int i = 0; i < 8; i++) {
                bytes[length + i] = (byte) (v >> 56 - 8 * i);
            }
            length += 8;
            return length;
        }

        void rewind() {
            next = 0;
            fault = NO_FAULT;
        }

        void fail(int what, int place) {
            if (fault == NO_FAULT) {
                fault = what;
                faultPlace = place;
            }
        }

        void nextToken() {
            if (fault != NO_FAULT) {
                return;
            }
            while (next < length && next < SIZE && bytes[next] == ' ') {
                next++;
            }
            tokenStart = next;
            token = next < length && next < SIZE ? tokenOf(bytes[next]) : END;
            number = 0;
            boolean isLong = token == NAME || token == NUMBER;
            while (isLong && next < length && next < SIZE && tokenOf(bytes[next]) == token) {
                number = 10 * number + bytes[next] - '0';
                next++;
            }
            if (token == SIGN) {
                next++;
            }
            if (token == NO_TOKEN || token == NUMBER && next - tokenStart > MOST_FIGURES) {
                fail(TextReader.NOT_A_TOKEN, tokenStart);
            }
        }

        boolean isName(String name) {
            if (token != NAME || next - tokenStart != name.length()) {
                return false;
            }
            for (int i = 0; i < name.length() && tokenStart + i < SIZE; i++) {
                if (bytes[tokenStart + i] != name.charAt(i)) {
                    return false;
                }
            }
            return true;
        }

        private static int tokenOf(byte b) {
            if (b >= 'a' && b <= 'z') {
                return NAME;
            }
            if (b >= '0' && b <= '9') {
                return NUMBER;
            }
            return b == ';' ? SIGN : NO_TOKEN;
        }
    }

    /** Reads the text on THE TAPE into a draft, so that a text with a FAULT leaves no trace. */
    private static final class TextReader {
        private static final int HALL = 0, FADE = 1, BOUNCE = 2, WARM = 3, PEOPLE = 4, BENCH = 5;
        private static final int PILLARS = 6, CURTAINS = 7, JOIN = 8, BAR = 9, WHISPER = 10, LINES = 11;
        private static final int UNTOLD = -1;
        private static final int NOT_A_TOKEN = 1, MISPLACED = 2, OUT_OF_BOUNDS = 3, AGAIN = 4, TOO_MANY = 5;
        private static final int MISSING = 6, ON_DEAF_CELL = 7;

        final Told draft = new Told();
        final Tape tape = new Tape();
        private int linesTold = 0;
        private int peopleTold = UNTOLD;

        int readLines() {
            draft.startAnew();
            linesTold = 0;
            peopleTold = UNTOLD;
            tape.rewind();
            tape.nextToken();
            int lines = 0;
            while (tape.fault == NO_FAULT && tape.token != Tape.END && lines <= Tape.SIZE) {
                readLine(lineBegun());
                lines++;
                tape.nextToken();
            }
            draft.people = peopleTold == UNTOLD ? Math.min(draft.benches.count, MOST_PEOPLE) : peopleTold;
            checkAll();
            return lines;
        }

        private static String nameOfLine(int line) {
            switch (line) {
                case HALL: return "hall";
                case FADE: return "fade";
                case BOUNCE: return "bounce";
                case WARM: return "warm";
                case PEOPLE: return "people";
                case BENCH: return "bench";
                case PILLARS: return "pillar";
                case CURTAINS: return "curtain";
                case JOIN: return "join";
                case BAR: return "bar";
                default: return "whisper";
            }
        }

        private static String nameOfKind(int kind) {
            switch (kind) {
                case PLAIN: return "plain";
                case TURNED: return "turned";
                case MOVING: return "moving";
                case RAISED: return "raised";
                default: return "listening";
            }
        }

        private int lineBegun() {
            for (int line = 0; line < LINES; line++) {
                if (tape.isName(nameOfLine(line))) {
                    return line;
                }
            }
            return NONE;
        }

        private void readLine(int line) {
            switch (line) {
                case HALL: case FADE: case BOUNCE: case WARM: case PEOPLE: readRule(line); break;
                case BENCH: readBench(); break;
                case PILLARS: readDeafCell(PILLAR); break;
                case CURTAINS: readDeafCell(CURTAIN); break;
                case JOIN: readWant(1); break;
                case BAR: readWant(0); break;
                case WHISPER: readWhisper(); break;
                default: failHere(MISPLACED); break;
            }
        }

        private void readRule(int line) {
            if (bit(linesTold, line) == 1) {
                failHere(AGAIN);
            }
            linesTold |= 1 << line;
            switch (line) {
                case HALL:
                    draft.wide = readNumber(3, 9);
                    draft.high = readNumber(3, 9);
                    break;
                case FADE: draft.fade = readNumber(0, 20); break;
                case BOUNCE: draft.bounce = readNumber(0, 50); break;
                case WARM: draft.warm = readNumber(0, MOST_WARM); break;
                default: peopleTold = readNumber(0, MOST_PEOPLE); break;
            }
            readSign();
        }

        private void readBench() {
            if (draft.benches.count >= MOST_BENCHES) {
                failHere(TOO_MANY);
            }
            int x = readNumber(0, 8);
            int y = readNumber(0, 8);
            int facing = readNumber(0, DIRECTIONS - 1);
            int ear = readNumber(1, 100);
            draft.benches.add(x, y, facing, ear, readKind());
            requireSign();
        }

        private void readDeafCell(int state) {
            int x = readNumber(0, 8);
            int y = readNumber(0, 8);
            int c = ROW * y + x;
            if (draft.stateOf(c) != FREE) {
                failHere(AGAIN);
            }
            draft.setState(c, state);
            readSign();
        }

        private void readWant(int joined) {
            if (draft.wants.count >= MOST_WANTS) {
                failHere(TOO_MANY);
            }
            int speaker = readNumber(0, MOST_PEOPLE - 1);
            int hearer = readNumber(0, MOST_PEOPLE - 1);
            if (speaker == hearer) {
                failHere(AGAIN);
            }
            draft.wants.add(speaker, hearer, joined);
            readSign();
        }

        private void readWhisper() {
            if (draft.whispers.count >= MOST_WHISPERS) {
                failHere(TOO_MANY);
            }
            int hour = readNumber(draft.latestHour(), HOURS - 1);
            int speaker = readNumber(0, MOST_PEOPLE - 1);
            draft.whispers.add(hour, speaker, readNumber(0, SECRETS - 1));
            readSign();
        }

        private int readNumber(int least, int most) {
            tape.nextToken();
            if (tape.token != Tape.NUMBER) {
                failHere(MISPLACED);
                return least;
            }
            if (!within(tape.number, least, most)) {
                failHere(OUT_OF_BOUNDS);
                return least;
            }
            return tape.number;
        }

        /** The TOKEN behind it is taken then, too: without a K that is how it is known. */
        private int readKind() {
            tape.nextToken();
            for (int kind = PLAIN; kind <= LISTENING; kind++) {
                if (tape.isName(nameOfKind(kind))) {
                    tape.nextToken();
                    return kind;
                }
            }
            return PLAIN;
        }

        private void readSign() {
            tape.nextToken();
            requireSign();
        }

        private void requireSign() {
            if (tape.token != Tape.SIGN) {
                failHere(MISPLACED);
            }
        }

        private void failHere(int what) {
            tape.fail(what, tape.tokenStart);
        }

        private void checkAll() {
            if (anyCellMissing() || anyOneMissing() || draft.people > draft.benches.count) {
                tape.fail(MISSING, tape.length);
            }
            for (int c = 0; c < ALL_CELLS; c++) {
                if (draft.stateOf(c) != FREE && draft.benches.anyPutOn(c)) {
                    tape.fail(ON_DEAF_CELL, tape.length);
                }
            }
        }

        private boolean anyCellMissing() {
            for (int c = 0; c < ALL_CELLS; c++) {
                if (!draft.isCell(c) && (draft.stateOf(c) != FREE || draft.benches.anyPutOn(c))) {
                    return true;
                }
            }
            return false;
        }

        private boolean anyOneMissing() {
            for (int i = 0; i < draft.wants.count; i++) {
                if (draft.wants.part(i, 0) >= draft.people || draft.wants.part(i, 1) >= draft.people) {
                    return true;
                }
            }
            for (int i = 0; i < draft.whispers.count; i++) {
                if (draft.whispers.part(i, 1) >= draft.people) {
                    return true;
                }
            }
            return false;
        }
    }

    /** The way of the latest WHISPER: what it is like by each STEP. */
    private static final class Course {
        int length = 0;
        private final int[] cells = new int[MOST_STEPS + 1];
        private final int[] louds = new int[MOST_STEPS + 1];
        private final int[] bounces = new int[MOST_STEPS + 1];
        private static final int[] CHANGE_OF_X = {0, 1, 1, 1, 0, -1, -1, -1};
        private static final int[] CHANGE_OF_Y = {-1, -1, 0, 1, 1, 1, 0, -1};

        void run(Told told, int start, int direction, boolean raised) {
            length = 0;
            cells[0] = start;
            if (!told.isCell(start) || !within(direction, 0, DIRECTIONS - 1)) {
                return;
            }
            int x = start % ROW;
            int y = start / ROW;
            int dx = CHANGE_OF_X[direction];
            int dy = CHANGE_OF_Y[direction];
            int turns = 0;
            for (int step = 1; step <= MOST_STEPS; step++) {
                if (x + dx < 0 || x + dx >= told.wide) {
                    dx = -dx;
                    turns++;
                }
                if (y + dy < 0 || y + dy >= told.high) {
                    dy = -dy;
                    turns++;
                }
                x += dx;
                y += dy;
                if (told.warm > 0 && step % told.warm == 0 && y + 1 < told.high) {
                    y++;
                }
                int state = told.stateOf(ROW * y + x);
                int loud = 100 - told.fade * step - told.bounce * turns;
                if (loud <= 0 || state == PILLAR || state == CURTAIN && !raised) {
                    return;
                }
                cells[step] = ROW * y + x;
                louds[step] = loud;
                bounces[step] = turns;
                length = step;
            }
        }

        private boolean reaches(int step) {
            return step >= 0 && step <= length && step <= MOST_STEPS;
        }

        int cellAt(int step) {
            return reaches(step) ? cells[step] : NONE;
        }

        int loudAt(int step) {
            return reaches(step) ? louds[step] : NONE;
        }

        int bouncesAt(int step) {
            return reaches(step) ? bounces[step] : NONE;
        }

        /** The STEP by which an EAR on CELL c HEARS it; 0: it does not. Where it begins it has not come to. */
        int stepHeardOn(int c, int ear) {
            for (int step = 1; step <= length && step <= MOST_STEPS; step++) {
                if (cells[step] == c) {
                    return louds[step] >= ear ? step : 0;
                }
            }
            return 0;
        }
    }

    /** Which BENCHES, and so which PEOPLE, HEAR which in an HOUR. */
    private static final class Hearing {
        final Course course = new Course();
        private final int[] hearers = new int[MOST_BENCHES];

        void whisperFromBench(Told told, int b, int hour) {
            boolean raised = told.benches.kindOf(b) == RAISED;
            course.run(told, told.benches.cellIn(b, hour, told.wide), told.benches.facingIn(b, hour), raised);
        }

        /** The STEP by which BENCH c HEARS the latest WHISPER; 0: it does not. */
        int stepOfHearing(Told told, int c, int hour) {
            return course.stepHeardOn(told.benches.cellIn(c, hour, told.wide), told.benches.earOf(c));
        }

        int hearersOfLatest(Told told, int hour) {
            int bits = 0;
            for (int c = 0; c < told.benches.count; c++) {
                int cell = told.benches.cellIn(c, hour, told.wide);
                if (course.stepHeardOn(cell, told.benches.earOf(c)) > 0) {
                    bits |= 1 << c;
                }
            }
            return bits;
        }

        int hearersOf(Told told, int b, int hour) {
            whisperFromBench(told, b, hour);
            return hearersOfLatest(told, hour) & ~(1 << b);
        }

        void listenToAll(Told told, int hour) {
            for (int b = 0; b < told.benches.count && b < MOST_BENCHES; b++) {
                hearers[b] = hearersOf(told, b, hour);
            }
        }

        /** As listenToAll() found it. */
        int isHeardBy(int b, int c) {
            return within(b, 0, MOST_BENCHES - 1) && within(c, 0, MOST_BENCHES - 1) ? bit(hearers[b], c) : 0;
        }

        int brokenWants(Told told, int hour) {
            listenToAll(told, hour);
            int bits = 0;
            for (int i = 0; i < told.wants.count; i++) {
                int from = told.seatOf(told.wants.part(i, 0));
                int to = told.seatOf(told.wants.part(i, 1));
                if (isHeardBy(from, to) != told.wants.part(i, 2)) {
                    bits |= 1 << i;
                }
            }
            return bits;
        }

        int peopleHearing(Told told, int p, int hour) {
            int seat = told.seatOf(p);
            int benches = seat == NONE ? 0 : hearersOf(told, seat, hour);
            int bits = 0;
            for (int q = 0; q < told.people; q++) {
                int other = told.seatOf(q);
                if (other != NONE && bit(benches, other) == 1) {
                    bits |= 1 << q;
                }
            }
            return bits;
        }
    }

    /** Who KNOWS which SECRET behind some of the WHISPERS. */
    private static final class Gossip {
        private final Hearing hearing = new Hearing();
        private final int[] knowers = new int[SECRETS];

        /** How many of them are whispered. */
        int tellFirst(Told told, int n) {
            Arrays.fill(knowers, 0);
            int whispered = 0;
            for (int i = 0; i < n; i++) {
                whispered += tellOne(told, i);
            }
            return whispered;
        }

        void tellAllBut(Told told, int left) {
            Arrays.fill(knowers, 0);
            for (int i = 0; i < told.whispers.count; i++) {
                if (i != left) {
                    tellOne(told, i);
                }
            }
        }

        /** The first WHISPER behind which one who is not of the insiders KNOWS the SECRET. */
        int firstKnownOutside(Told told, int secret, int insiders) {
            Arrays.fill(knowers, 0);
            for (int i = 0; i < told.whispers.count; i++) {
                tellOne(told, i);
                if ((knowersOf(secret) & ~insiders) != 0) {
                    return i;
                }
            }
            return NONE;
        }

        int knowersOf(int secret) {
            return isSecret(secret) ? knowers[secret] : 0;
        }

        int secretsOf(int p) {
            int bits = 0;
            for (int secret = 0; secret < SECRETS; secret++) {
                bits |= bit(knowersOf(secret), p) << secret;
            }
            return bits;
        }

        /** Whether it is whispered, behind those that were told before it. */
        int tellOne(Told told, int i) {
            int p = told.whispers.part(i, 1);
            int secret = told.whispers.part(i, 2);
            int known = knowersOf(secret);
            if (!within(p, 0, told.people - 1) || !isSecret(secret) || known != 0 && bit(known, p) == 0) {
                return 0;
            }
            knowers[secret] = known | 1 << p | hearing.peopleHearing(told, p, told.whispers.part(i, 0));
            return 1;
        }
    }

    /** Looks for the SEATINGS with the fewest BROKEN WANTS. */
    private static final class Seatings {
        int fewest = 0;
        int howMany = 0;
        private final Hearing hearing = new Hearing();
        private final int[] first = new int[MOST_PEOPLE];
        private final int[] tried = new int[MOST_PEOPLE];

        void search(Told told, int hour) {
            hearing.listenToAll(told, hour);
            fewest = MOST_WANTS + 1;
            howMany = 0;
            seatNext(this, told, 0, 0, 0);
        }

        int benchInFirst(int p) {
            return within(p, 0, MOST_PEOPLE - 1) ? first[p] : NONE;
        }

        private static void seatNext(Seatings s, Told told, int p, int taken, int broken) {
            if (broken > s.fewest) {
                return;
            }
            if (p < 0 || p >= told.people || p >= MOST_PEOPLE) {
                s.takeSeating(broken);
                return;
            }
            for (int b = 0; b < told.benches.count; b++) {
                if (bit(taken, b) == 0) {
                    s.tried[p] = b;
                    seatNext(s, told, p + 1, taken | 1 << b, broken + s.brokenBy(told, p));
                }
            }
        }

        private void takeSeating(int broken) {
            if (broken < fewest) {
                fewest = broken;
                howMany = 0;
                System.arraycopy(tried, 0, first, 0, MOST_PEOPLE);
            }
            howMany++;
        }

        /** WANTS that can be judged only now that ONE p sits, too. */
        private int brokenBy(Told told, int p) {
            int broken = 0;
            for (int i = 0; i < told.wants.count; i++) {
                int speaker = told.wants.part(i, 0);
                int hearer = told.wants.part(i, 1);
                if (Math.max(speaker, hearer) == p
                        && hearing.isHeardBy(benchTried(speaker), benchTried(hearer)) != told.wants.part(i, 2)) {
                    broken++;
                }
            }
            return broken;
        }

        private int benchTried(int p) {
            return within(p, 0, MOST_PEOPLE - 1) ? tried[p] : NONE;
        }
    }

    /** The SHEETS; each one's row is made once, and used again by every new row. */
    private static final class Sheets {
        private static final int NOTHING = -1;

        private final int[][] rows = new int[SHEETS][SHEET_CELLS];
        private final int[] lanes = new int[SHEETS];
        private final int[] sizes = new int[SHEETS];

        Sheets() {
            Arrays.fill(lanes, NOTHING);
        }

        private static boolean isSheet(int k) {
            return within(k, 0, SHEETS - 1);
        }

        void renew(int k, int lane, int n) {
            if (isSheet(k) && within(n, 0, SHEET_CELLS)) {
                Arrays.fill(rows[k], 0);
                lanes[k] = lane;
                sizes[k] = n;
            }
        }

        int cellsOf(int k) {
            return isSheet(k) && lanes[k] != NOTHING ? sizes[k] : NONE;
        }

        int faultOfLane(int k, int lane) {
            if (!isSheet(k) || lanes[k] == NOTHING) {
                return NULL_FAULT;
            }
            return lanes[k] == lane ? NO_FAULT : CAST_FAULT;
        }

        /** Of n CELLS from CELL i on. */
        int faultOfCells(int k, int i, int n) {
            if (!isSheet(k) || lanes[k] == NOTHING) {
                return NULL_FAULT;
            }
            return within(i, 0, sizes[k] - n) ? NO_FAULT : INDEX_FAULT;
        }

        void put(int k, int i, int v) {
            if (faultOfCells(k, i, 1) != NO_FAULT || i >= SHEET_CELLS) {
                return;
            }
            switch (lanes[k]) {
                case 0: rows[k][i] = (byte) v; break;
                case 1: rows[k][i] = (short) v; break;
                default: rows[k][i] = v; break;
            }
        }

        int valueAt(int k, int i) {
            return faultOfCells(k, i, 1) == NO_FAULT && i < SHEET_CELLS ? rows[k][i] : 0;
        }
    }
}
