import java.util.Arrays;

/**
 * Finds where something got into the drains: shafts and pipes, what was seen in them, and who fits it.
 * All rows are made once, in the constructors: no call makes an object, so that long runs stay small.
 */
public final class ShaftHunt {
    public static final int NONE = -1, BAD = -2, NO = -3, FULL = -4;

    private static final int MOST_SHAFTS = 10, MOST_PIPES = 16, MOST_SIGHTS = 12;
    private static final int MOST_PAIRS = MOST_SHAFTS * (MOST_SHAFTS - 1) / 2;
    private static final int MOST_STATES = 5;
    private static final int MOST_P = 15, MOST_HIGH = 9;
    private static final int LAST_MINUTE = 62, LAST_START = 30, DIGEST_START = 5;

    private static final int PLAIN = 0, PUMP = 1, TANK = 2, WEIR = 3, SLOW_PUMP = 4;
    private static final int CLEAN = 0, SEEN = 1;

    private static final int MOST_BYTES = 120, LAST_BYTE = 127;
    private static final int BLANK = 32;
    // The shortest order, x0; has three bytes.
    private static final int MOST_ORDERS = MOST_BYTES / 3;
    private static final int MOST_NUMBERS = 4, MOST_FIGURES = 2;
    private static final int FAULT_BASE = -10, STOP_BASE = -1000;

    // Minutes 0 .. 62 are all bits of a long but its sign: what is later falls off.
    private static final long ALL_MINUTES = -1L >>> 1;

    private final Drains now;
    private final Past past;
    private final Flow flow;
    private final Watch watch;
    private final Orders orders;
    private final byte[] text;
    private int bytes;
    private int bads;
    private int noes;
    private int fulls;

    public ShaftHunt() {
        now = new Drains();
        past = new Past();
        flow = new Flow();
        watch = new Watch();
        orders = new Orders();
        text = new byte[MOST_BYTES];
    }

    // ---- drains

    public int shaft(int kind, int p) {
        past.mark(now);
        return settled(now.addShaft(kind, p));
    }

    public int sets(int a, int what, int v) {
        past.mark(now);
        return settled(now.changeShaft(a, what, v));
    }

    public int pipe(int a, int b, int low, int high) {
        past.mark(now);
        return settled(now.addPipe(a, b, low, high));
    }

    public int drops(int i) {
        past.mark(now);
        return settled(now.dropPipe(i));
    }

    public int of(int a, int what) {
        if (!now.hasShaft(a)) {
            return refused(BAD);
        }
        switch (what) {
            case 0: return now.kind[a];
            case 1: return now.pace[a];
            case 2: return now.pipesAt(now.from, a);
            case 3: return now.pipesAt(now.to, a);
            case 4: return now.below[a];
            case 5: return now.above(a);
            default: return refused(BAD);
        }
    }

    public int about(int i, int what) {
        if (!now.hasPipe(i)) {
            return refused(BAD);
        }
        switch (what) {
            case 0: return now.from[i];
            case 1: return now.to[i];
            case 2: return now.low[i];
            case 3: return now.high[i];
            default: return refused(BAD);
        }
    }

    // ---- what comes by

    public long comes(int a, int m, int b) {
        if (!isStart(a, m) || !now.hasShaft(b)) {
            return refused(BAD);
        }
        flow.walk(now, a, m);
        return flow.come[b];
    }

    public int times(int a, int m, int b, int what) {
        if (!isStart(a, m) || !now.hasShaft(b) || !within(what, 0, 2)) {
            return refused(BAD);
        }
        flow.walk(now, a, m);
        long minutes = flow.come[b];
        if (what == 2) {
            return Long.bitCount(minutes);
        }
        if (minutes == 0) {
            return NONE;
        }
        return what == 0 ? Long.numberOfTrailingZeros(minutes) : 63 - Long.numberOfLeadingZeros(minutes);
    }

    public int leaves(int a, int m) {
        if (!now.hasShaft(a) || !within(m, 0, LAST_MINUTE)) {
            return refused(BAD);
        }
        long out = now.leaving(a, 1L << m);
        return out == 0 ? NONE : Long.numberOfTrailingZeros(out);
    }

    // ---- what was seen

    public int sight(int sort, int a, int m) {
        past.mark(now);
        return settled(now.addSight(sort, a, m));
    }

    public int forget() {
        past.mark(now);
        return settled(now.dropSights());
    }

    public int fits(int a, int m) {
        if (!isStart(a, m)) {
            return refused(BAD);
        }
        flow.walk(now, a, m);
        return flow.agrees(now) ? 1 : 0;
    }

    public int when(int a) {
        if (!now.hasShaft(a)) {
            return refused(BAD);
        }
        return flow.startsAt(now, a);
    }

    public int suspects() {
        return flow.suspicious(now);
    }

    public int next(int what) {
        if (!within(what, 0, 1)) {
            return refused(BAD);
        }
        int suspected = flow.suspicious(now);
        int best = NONE;
        int bestPart = NONE;
        for (int w = 0; w < now.shafts; w++) {
            int part = largerPart(suspected, now.above(w));
            if (best == NONE || part < bestPart) {
                best = w;
                bestPart = part;
            }
        }
        return what == 0 ? best : bestPart;
    }

    // ---- who watches

    public int alike(int set) {
        if (!within(set, 0, (1 << now.shafts) - 1)) {
            return refused(BAD);
        }
        watch.compare(now);
        return watch.untold(set);
    }

    public int sensors(int what) {
        if (!within(what, 0, 1)) {
            return refused(BAD);
        }
        watch.compare(now);
        int set = watch.fewest(now.shafts);
        return what == 0 || set == NONE ? set : Integer.bitCount(set);
    }

    // ---- texts

    public int type(int c) {
        if (!within(c, 0, LAST_BYTE)) {
            return refused(BAD);
        }
        if (bytes >= MOST_BYTES) {
            return refused(FULL);
        }
        text[bytes] = (byte) c;
        bytes++;
        return bytes;
    }

    public int clear() {
        int had = bytes;
        bytes = 0;
        return had;
    }

    public int reads() {
        int fault = orders.parse(text, bytes);
        if (fault != NONE) {
            return FAULT_BASE - fault;
        }
        past.mark(now);
        for (int n = 0; n < orders.count; n++) {
            if (orders.obey(n, now) < 0) {
                past.toMark(now);
                return STOP_BASE - n;
            }
        }
        return settled(orders.count);
    }

    public int back() {
        if (past.count == 0) {
            return refused(NO);
        }
        past.undo(now);
        flow.outdate();
        return past.count;
    }

    public int told(int what) {
        switch (what) {
            case 0: return bads;
            case 1: return noes;
            case 2: return fulls;
            case 3: return bytes;
            case 4: return now.shafts;
            case 5: return now.pipes;
            case 6: return now.sights;
            case 7: return past.count;
            default: return refused(BAD);
        }
    }

    public long digest() {
        long h = 2557;
        for (int what = 0; what <= 7; what++) {
            h = 31 * h + told(what);
        }
        h = digestShafts(h);
        h = digestPipes(h);
        for (int b = 0; b < now.shafts; b++) {
            for (int a = 0; a < now.shafts; a++) {
                h = 31 * h + comes(a, DIGEST_START, b);
            }
        }
        h = 31 * h + next(0);
        h = 31 * h + next(1);
        return 31 * h + sensors(0);
    }

    private long digestShafts(long before) {
        long h = before;
        for (int a = 0; a < now.shafts; a++) {
            for (int what = 0; what <= 5; what++) {
                h = 31 * h + of(a, what);
            }
            h = 31 * h + when(a);
        }
        return h;
    }

    private long digestPipes(long before) {
        long h = before;
        for (int i = 0; i < now.pipes; i++) {
            for (int what = 0; what <= 3; what++) {
                h = 31 * h + about(i, what);
            }
        }
        return h;
    }

    private boolean isStart(int a, int m) {
        return now.hasShaft(a) && within(m, 0, LAST_START);
    }

    /** Ends a call that may change the drains: one that was refused has changed nothing, and leaves no state. */
    private int settled(int answer) {
        if (answer < 0) {
            return refused(answer);
        }
        past.keep();
        flow.outdate();
        return answer;
    }

    private int refused(int why) {
        switch (why) {
            case BAD: bads++; break;
            case NO: noes++; break;
            default: fulls++; break;
        }
        return why;
    }

    private static int largerPart(int suspected, int above) {
        int hit = Integer.bitCount(suspected & above);
        return Math.max(hit, Integer.bitCount(suspected) - hit);
    }

    private static boolean within(int v, int least, int most) {
        return v >= least && v <= most;
    }

    /** One state: all that a step back restores. A call on it that is refused answers why, and changes nothing. */
    private static final class Drains {
        int shafts;
        final int[] kind = new int[MOST_SHAFTS];
        final int[] pace = new int[MOST_SHAFTS];
        int pipes;
        final int[] from = new int[MOST_PIPES];
        final int[] to = new int[MOST_PIPES];
        final int[] low = new int[MOST_PIPES];
        final int[] high = new int[MOST_PIPES];
        int sights;
        final int[] sort = new int[MOST_SIGHTS];
        final int[] place = new int[MOST_SIGHTS];
        final int[] minute = new int[MOST_SIGHTS];
        // These two follow from the pipes, and are kept because nearly every question needs them.
        final int[] below = new int[MOST_SHAFTS];
        final int[] route = new int[MOST_PIPES];

        boolean hasShaft(int a) {
            return within(a, 0, shafts - 1);
        }

        boolean hasPipe(int i) {
            return within(i, 0, pipes - 1);
        }

        int addShaft(int newKind, int newPace) {
            if (!isKind(newKind) || !isPace(newPace)) {
                return BAD;
            }
            if (shafts >= MOST_SHAFTS) {
                return FULL;
            }
            int a = shafts;
            kind[a] = newKind;
            pace[a] = newPace;
            shafts++;
            findWays();
            return a;
        }

        int changeShaft(int a, int what, int v) {
            if (!hasShaft(a)) {
                return BAD;
            }
            if (what == 0 && isKind(v)) {
                int was = kind[a];
                kind[a] = v;
                return was;
            }
            if (what == 1 && isPace(v)) {
                int was = pace[a];
                pace[a] = v;
                return was;
            }
            return BAD;
        }

        int addPipe(int a, int b, int least, int most) {
            if (!hasShaft(a) || !hasShaft(b) || a == b) {
                return BAD;
            }
            if (least < 0 || most > MOST_HIGH || least > most) {
                return BAD;
            }
            if (isBelow(a, b)) {
                return NO;
            }
            if (pipes >= MOST_PIPES) {
                return FULL;
            }
            int i = pipes;
            from[i] = a;
            to[i] = b;
            low[i] = least;
            high[i] = most;
            pipes++;
            findWays();
            return i;
        }

        int dropPipe(int i) {
            if (!hasPipe(i)) {
                return BAD;
            }
            pipes--;
            for (int j = i; j < pipes; j++) {
                from[j] = from[j + 1];
                to[j] = to[j + 1];
                low[j] = low[j + 1];
                high[j] = high[j + 1];
            }
            findWays();
            return pipes;
        }

        int addSight(int newSort, int a, int m) {
            if (!within(newSort, CLEAN, SEEN) || !hasShaft(a) || !within(m, 0, LAST_MINUTE)) {
                return BAD;
            }
            if (sights >= MOST_SIGHTS) {
                return FULL;
            }
            sort[sights] = newSort;
            place[sights] = a;
            minute[sights] = m;
            sights++;
            return sights;
        }

        int dropSights() {
            int had = sights;
            sights = 0;
            return had;
        }

        boolean isBelow(int w, int a) {
            return (below[a] >> w & 1) == 1;
        }

        int above(int w) {
            int found = 0;
            for (int a = 0; a < shafts; a++) {
                if (isBelow(w, a)) {
                    found |= 1 << a;
                }
            }
            return found;
        }

        int pipesAt(int[] ends, int a) {
            int count = 0;
            for (int i = 0; i < pipes; i++) {
                if (ends[i] == a) {
                    count++;
                }
            }
            return count;
        }

        /** The minutes at which what came to a shaft at a set of minutes goes on. */
        long leaving(int a, long come) {
            int p = pace[a];
            switch (kind[a]) {
                case PUMP: return pumped(come, p);
                case TANK: return (come << p) & ALL_MINUTES;
                case WEIR: return come & (-1L << p);
                case SLOW_PUMP: return (pumped(come, p) << (p / 10 + 1)) & ALL_MINUTES;
                case PLAIN:
                default: return come;
            }
        }

        /** The minutes at which a pipe brings what left its upper shaft at a set of minutes. */
        long brought(int i, long left) {
            long found = 0;
            for (int d = low[i]; d <= high[i]; d++) {
                found |= left << d;
            }
            return found & ALL_MINUTES;
        }

        void copyFrom(Drains other) {
            shafts = other.shafts;
            copyRow(other.kind, kind);
            copyRow(other.pace, pace);
            copyRow(other.below, below);
            pipes = other.pipes;
            copyRow(other.from, from);
            copyRow(other.to, to);
            copyRow(other.low, low);
            copyRow(other.high, high);
            copyRow(other.route, route);
            sights = other.sights;
            copyRow(other.sort, sort);
            copyRow(other.place, place);
            copyRow(other.minute, minute);
        }

        private void findWays() {
            findBelow();
            findRoute();
        }

        private void findBelow() {
            for (int a = 0; a < shafts; a++) {
                below[a] = 1 << a;
            }
            // Without a ring no way has more pipes than there are shafts less one.
            for (int round = 1; round < shafts; round++) {
                for (int i = 0; i < pipes; i++) {
                    below[from[i]] |= below[to[i]];
                }
            }
        }

        /** Lines the pipes up so that all that come to a shaft stand ahead of all that leave it. */
        private void findRoute() {
            int laid = 0;
            // Without a ring an upper shaft always has more shafts below it than a lower one.
            for (int size = shafts; size > 0; size--) {
                for (int i = 0; i < pipes; i++) {
                    if (Integer.bitCount(below[from[i]]) == size && laid < MOST_PIPES) {
                        route[laid] = i;
                        laid++;
                    }
                }
            }
        }

        private static long pumped(long come, int p) {
            if (p < 1) {
                return 0;
            }
            long found = come & 1L;
            for (int m = p; m <= LAST_MINUTE; m += p) {
                long waiting = ((1L << p) - 1) << (m - p + 1);
                if ((come & waiting) != 0) {
                    found |= 1L << m;
                }
            }
            return found;
        }

        private static boolean isKind(int v) {
            return within(v, PLAIN, SLOW_PUMP);
        }

        private static boolean isPace(int v) {
            return within(v, 1, MOST_P);
        }

        private static void copyRow(int[] source, int[] target) {
            System.arraycopy(source, 0, target, 0, Math.min(source.length, target.length));
        }
    }

    /** The states to go back to, the oldest first; the row behind them takes the mark of a call under way. */
    private static final class Past {
        private final Drains[] kept = new Drains[MOST_STATES + 1];
        int count;

        Past() {
            for (int i = 0; i <= MOST_STATES; i++) {
                kept[i] = new Drains();
            }
        }

        void mark(Drains now) {
            kept[count].copyFrom(now);
        }

        void toMark(Drains now) {
            now.copyFrom(kept[count]);
        }

        void keep() {
            if (count < MOST_STATES) {
                count++;
                return;
            }
            Drains oldest = kept[0];
            for (int i = 0; i < MOST_STATES; i++) {
                kept[i] = kept[i + 1];
            }
            kept[MOST_STATES] = oldest;
        }

        void undo(Drains now) {
            if (count > 0) {
                count--;
                now.copyFrom(kept[count]);
            }
        }
    }

    /** What comes by behind a start, and which starts fit what was seen. */
    private static final class Flow {
        // For every shaft the minutes at which it is come to behind the start walked from last.
        final long[] come = new long[MOST_SHAFTS];
        private final int[] starts = new int[MOST_SHAFTS];
        // Bits of the shafts whose starts are known: to find them is by far the dearest work.
        private int known;

        void outdate() {
            known = 0;
        }

        void walk(Drains drains, int a, int m) {
            Arrays.fill(come, 0L);
            come[a] = 1L << m;
            for (int n = 0; n < drains.pipes; n++) {
                int i = drains.route[n];
                int upper = drains.from[i];
                if (come[upper] != 0) {
                    come[drains.to[i]] |= drains.brought(i, drains.leaving(upper, come[upper]));
                }
            }
        }

        /** Whether the start walked from last fits all sights. */
        boolean agrees(Drains drains) {
            for (int s = 0; s < drains.sights; s++) {
                if (!agreesWith(drains, s)) {
                    return false;
                }
            }
            return true;
        }

        int startsAt(Drains drains, int a) {
            if ((known >> a & 1) == 1) {
                return starts[a];
            }
            int found = 0;
            for (int m = 0; m <= LAST_START; m++) {
                walk(drains, a, m);
                if (agrees(drains)) {
                    found |= 1 << m;
                }
            }
            starts[a] = found;
            known |= 1 << a;
            return found;
        }

        int suspicious(Drains drains) {
            int found = 0;
            for (int a = 0; a < drains.shafts; a++) {
                if (startsAt(drains, a) != 0) {
                    found |= 1 << a;
                }
            }
            return found;
        }

        private boolean agreesWith(Drains drains, int s) {
            long minutes = come[drains.place[s]];
            int m = drains.minute[s];
            if (drains.sort[s] == SEEN) {
                return (minutes >>> m & 1L) == 1L;
            }
            return minutes == 0 || minutes >>> (m + 1) != 0;
        }
    }

    /** Which watched shafts tell which two shafts apart. */
    private static final class Watch {
        // For every two shafts the watchers that are below just one of them.
        private final int[] tellers = new int[MOST_PAIRS];
        private int pairs;

        void compare(Drains drains) {
            pairs = 0;
            for (int a = 0; a < drains.shafts; a++) {
                for (int b = a + 1; b < drains.shafts && pairs < MOST_PAIRS; b++) {
                    tellers[pairs] = drains.below[a] ^ drains.below[b];
                    pairs++;
                }
            }
        }

        int untold(int set) {
            int count = 0;
            for (int i = 0; i < pairs; i++) {
                if ((tellers[i] & set) == 0) {
                    count++;
                }
            }
            return count;
        }

        int fewest(int shafts) {
            int best = NONE;
            int bestSize = shafts + 1;
            for (int set = 0; set < 1 << shafts; set++) {
                int size = Integer.bitCount(set);
                if (size < bestSize && tellsAll(set)) {
                    best = set;
                    bestSize = size;
                }
            }
            return best;
        }

        private boolean tellsAll(int set) {
            for (int i = 0; i < pairs; i++) {
                if ((tellers[i] & set) == 0) {
                    return false;
                }
            }
            return true;
        }
    }

    /** The orders of a text, taken apart byte by byte. */
    private static final class Orders {
        private final int[] letter = new int[MOST_ORDERS];
        private final int[] numbers = new int[MOST_ORDERS * MOST_NUMBERS];
        int count;
        // Of the order under way: whether there is one, its numbers begun, the figures of the last if it may go on.
        private boolean open;
        private int begun;
        private int figures;

        /** The place of the fault, or NONE. */
        int parse(byte[] text, int length) {
            count = 0;
            open = false;
            for (int place = 0; place < length; place++) {
                if (!takes(text[place])) {
                    return place;
                }
            }
            return open || count == 0 ? length : NONE;
        }

        /** What the call answers that the order stands for. */
        int obey(int n, Drains drains) {
            int first = n * MOST_NUMBERS;
            int a = numbers[first];
            int b = numbers[first + 1];
            switch (letter[n]) {
                case 's': return drains.addShaft(a, b);
                case 'p': return drains.addPipe(a, b, numbers[first + 2], numbers[first + 3]);
                case 'e': return drains.addSight(SEEN, a, b);
                case 'c': return drains.addSight(CLEAN, a, b);
                case 'x': return drains.dropPipe(a);
                default: return BAD;
            }
        }

        private boolean takes(int c) {
            if (c == BLANK) {
                figures = 0;
                return true;
            }
            if (!open) {
                return opens(c);
            }
            if (c == ';') {
                return closes();
            }
            return within(c, '0', '9') && takesFigure(c - '0');
        }

        private boolean opens(int c) {
            if (numbersOf(c) == 0 || count >= MOST_ORDERS) {
                return false;
            }
            letter[count] = c;
            open = true;
            begun = 0;
            figures = 0;
            return true;
        }

        private boolean closes() {
            if (begun < numbersOf(letter[count])) {
                return false;
            }
            open = false;
            count++;
            return true;
        }

        private boolean takesFigure(int figure) {
            if (figures >= MOST_FIGURES) {
                return false;
            }
            if (figures == 0) {
                if (begun >= numbersOf(letter[count])) {
                    return false;
                }
                numbers[count * MOST_NUMBERS + begun] = 0;
                begun++;
            }
            int last = count * MOST_NUMBERS + begun - 1;
            numbers[last] = 10 * numbers[last] + figure;
            figures++;
            return true;
        }

        private static int numbersOf(int c) {
            switch (c) {
                case 'p': return 4;
                case 's': case 'e': case 'c': return 2;
                case 'x': return 1;
                default: return 0;
            }
        }
    }
}
