import java.util.Arrays;
import java.util.NoSuchElementException;

/** Summaries of streams by rows of values with a gap and a spread each; see README.md. */
public final class GapRows {
    public static final int NONE = -1;

    private static final int WITHOUT = -2;

    private static final int TAPE_BYTES = 400;
    private static final int FEED_BYTES = 20;
    private static final int MAX_STREAMS = 4;
    private static final int MAX_VALUES = 1000;
    private static final int VALUE_KINDS = 1000;
    private static final int MAX_PUSHES_TOLD = 200;

    private static final int LEAST_ERROR = 2;
    private static final int MOST_ERROR = 40;
    private static final int MOST_EVERY = 60;
    private static final int MOST_SHARES = 100;
    private static final int MOST_BAND = 12;
    private static final int MOST_DRAWN = 200;
    private static final int SEEDS = 65537;

    private static final int NO_SUCH = 1;
    private static final int NUMBER = 2;
    private static final int NO_ROOM = 3;
    private static final int FAULTY = 4;
    private static final int NOT_SO = 5;

    private final TextReader reader = new TextReader();
    // made by the first TEXT that needs them and used again by later ones
    private final Stream[] streams = new Stream[MAX_STREAMS];
    private int streamCount = 0;
    private int errorNow = 0;
    private int seedNow = 1;
    private int latestTrouble = 0;
    private int latestFault = 0;
    private int faultPlace = NONE;
    private final Row workRow = new Row();
    private final Row spareRow = new Row();

    public GapRows() {
    }

    // ---- the streams

    public int feed(int a, int b, int c, int d, int e) {
        if (reader.taped + FEED_BYTES > TAPE_BYTES) {
            return NONE;
        }
        reader.putBytes(a);
        reader.putBytes(b);
        reader.putBytes(c);
        reader.putBytes(d);
        reader.putBytes(e);
        return reader.taped;
    }

    public int ranks(int n) {
        if (n < 0 || n > reader.taped) {
            return refuse(NUMBER);
        }
        reader.readText(n);
        latestFault = reader.fault;
        faultPlace = reader.place;
        if (latestFault != 0) {
            return refuse(FAULTY);
        }
        takeText();
        return pass(streamCount);
    }

    public int fault() {
        return latestFault;
    }

    public int where() {
        return latestTrouble == FAULTY ? faultPlace : NONE;
    }

    public int about(int what) {
        if (streamCount == 0 || what < 0 || what > 5) {
            return refuse(NO_SUCH);
        }
        switch (what) {
            case 0:
                return pass(errorNow);
            case 1:
                return pass(streamCount);
            case 5:
                return pass(seedNow);
            default:
                return pass(sumOfAll(what));
        }
    }

    public int stream(int s, int what) {
        Stream x = find(s);
        if (x == null || what < 0 || what > 9) {
            return refuse(NO_SUCH);
        }
        switch (what) {
            case 0:
                return pass(x.n);
            case 1:
                return pass(x.row.length);
            case 2:
                return pass(boundOf(x.n, errorNow));
            case 3:
                return pass(x.compressEvery);
            case 4:
                return pass(x.pushesSince);
            case 5:
                return pass(x.compressions);
            case 6:
                return pass(x.row.length == 0 ? WITHOUT : x.row.value[0]);
            case 7:
                return pass(x.row.length == 0 ? WITHOUT : x.row.value[x.row.length - 1]);
            case 8:
                return pass(x.row.widest());
            default:
                return pass(x.unlikeValues());
        }
    }

    public int tuple(int s, int i, int what) {
        Stream x = find(s);
        if (x == null || i < 0 || i >= x.row.length || what < 0 || what > 6) {
            return refuse(NO_SUCH);
        }
        Row row = x.row;
        switch (what) {
            case 0:
                return pass(row.value[i]);
            case 1:
                return pass(row.gap(i));
            case 2:
                return pass(row.spreads[i]);
            case 3:
                return pass(row.low[i]);
            case 4:
                return pass(row.high(i));
            case 5:
                return pass(bandOf(row.spreads[i], boundOf(x.n, errorNow)));
            default:
                row.takeBands(boundOf(x.n, errorNow));
                return pass(i - row.familyFrom(i) + 1);
        }
    }

    public int goes(int s, int i) {
        Stream x = find(s);
        if (x == null || i < 0 || i >= x.row.length) {
            return refuse(NO_SUCH);
        }
        if (i == 0 || i == x.row.length - 1) {
            return pass(0);
        }
        int bound = boundOf(x.n, errorNow);
        x.row.takeBands(bound);
        boolean may = x.row.mayGo(i, x.row.familyFrom(i), i + 1, bound);
        return pass(may ? 1 : 0);
    }

    public int band(int spread, int bound) {
        if (spread < 0 || spread >= MAX_VALUES || bound < 1 || bound > MAX_VALUES) {
            return refuse(NUMBER);
        }
        return pass(bandOf(spread, bound));
    }

    public int check(int s) {
        Stream x = find(s);
        if (x == null) {
            return refuse(NO_SUCH);
        }
        return pass(x.row.firstWrong(x.n, boundOf(x.n, errorNow)));
    }

    // ---- answers

    public int answer(int s, int r, int what) {
        Stream x = find(s);
        if (x == null || what < 0 || what > 2) {
            return refuse(NO_SUCH);
        }
        if (!isPlace(x, r)) {
            return refuse(NUMBER);
        }
        int at = x.row.nearest(r, 0);
        if (what == 2) {
            return pass(at);
        }
        return pass(what == 0 ? x.row.value[at] : x.row.offBy(at, r));
    }

    public int quota(int s, int k, int n, int what) {
        Stream x = find(s);
        if (x == null || what < 0 || what > 2) {
            return refuse(NO_SUCH);
        }
        if (!isShare(n) || k < 0 || k > n) {
            return refuse(NUMBER);
        }
        if (x.n == 0) {
            return refuse(NOT_SO);
        }
        int r = x.quotaPlace(k, n);
        if (what == 2) {
            return pass(r);
        }
        int at = x.row.nearest(r, 0);
        return pass(what == 0 ? x.row.value[at] : x.row.offBy(at, r));
    }

    public int rank(int s, int v, boolean most) {
        Stream x = find(s);
        if (x == null) {
            return refuse(NO_SUCH);
        }
        if (!isValue(v)) {
            return refuse(NUMBER);
        }
        return pass(most ? x.row.mostUpTo(v) : x.row.sureUpTo(v));
    }

    public int between(int s, int v, int w, boolean most) {
        Stream x = find(s);
        if (x == null) {
            return refuse(NO_SUCH);
        }
        if (!isValue(v) || !isValue(w) || w < v) {
            return refuse(NUMBER);
        }
        return pass(x.row.countAbove(v - 1, w, most));
    }

    public int exact(int s) {
        Stream x = find(s);
        if (x == null) {
            return refuse(NO_SUCH);
        }
        return pass(x.row.exactPlaces());
    }

    public int worst(int s) {
        Stream x = find(s);
        if (x == null) {
            return refuse(NO_SUCH);
        }
        return pass(x.n == 0 ? WITHOUT : x.row.greatestOff());
    }

    public int bounds(int s, int r, int what) {
        Stream x = find(s);
        if (x == null || what < 0 || what > 1) {
            return refuse(NO_SUCH);
        }
        if (!isPlace(x, r)) {
            return refuse(NUMBER);
        }
        int at = what == 0 ? x.row.floorAt(r, 0) : x.row.ceilingAt(r, 0);
        return pass(x.row.value[at]);
    }

    public int unsure(int s, int what) {
        Stream x = find(s);
        if (x == null || what < 0 || what > 1) {
            return refuse(NO_SUCH);
        }
        return pass(x.row.doubts(what == 1));
    }

    public int total(int s, boolean most) {
        Stream x = find(s);
        if (x == null) {
            return refuse(NO_SUCH);
        }
        return pass(x.row.sumOfPlaces(most));
    }

    public int bands(int s, int k) {
        Stream x = find(s);
        if (x == null) {
            return refuse(NO_SUCH);
        }
        if (k < 0 || k > MOST_BAND) {
            return refuse(NUMBER);
        }
        return pass(x.row.tuplesOfBand(k, boundOf(x.n, errorNow)));
    }

    public int bar(int s, int k, int n, boolean most) {
        Stream x = find(s);
        if (x == null) {
            return refuse(NO_SUCH);
        }
        if (!isShare(n) || k < 0 || k >= n) {
            return refuse(NUMBER);
        }
        if (x.n == 0) {
            return refuse(NOT_SO);
        }
        int from = x.row.nearest(x.quotaPlace(k, n), 0);
        int to = x.row.nearest(x.quotaPlace(k + 1, n), from);
        return pass(x.row.countAbove(x.row.value[from], x.row.value[to], most));
    }

    public int uneven(int s, int n) {
        Stream x = find(s);
        if (x == null) {
            return refuse(NO_SUCH);
        }
        if (!isShare(n)) {
            return refuse(NUMBER);
        }
        if (x.n == 0) {
            return refuse(NOT_SO);
        }
        return pass(x.unevenness(n));
    }

    public int meets(int s, int t, int n, int what) {
        Stream x = find(s);
        Stream y = findOther(s, t);
        if (x == null || y == null || what < 0 || what > 2) {
            return refuse(NO_SUCH);
        }
        if (!isShare(n)) {
            return refuse(NUMBER);
        }
        if (x.n == 0 || y.n == 0) {
            return refuse(NOT_SO);
        }
        return pass(countMeets(x, y, n, what));
    }

    // ---- beside, by sorting

    public int sum(int s) {
        Stream x = find(s);
        if (x == null) {
            return refuse(NO_SUCH);
        }
        return pass(x.sumOfValues());
    }

    public int sorted(int s, int r) {
        Stream x = find(s);
        if (x == null) {
            return refuse(NO_SUCH);
        }
        if (!isPlace(x, r)) {
            return refuse(NUMBER);
        }
        return pass(x.valueAt(r));
    }

    public int times(int s, int v) {
        Stream x = find(s);
        if (x == null) {
            return refuse(NO_SUCH);
        }
        if (!isValue(v)) {
            return refuse(NUMBER);
        }
        return pass(x.counts[v]);
    }

    public int miss(int s, int r) {
        Stream x = find(s);
        if (x == null) {
            return refuse(NO_SUCH);
        }
        if (!isPlace(x, r)) {
            return refuse(NUMBER);
        }
        return pass(x.missAt(r));
    }

    public int missed(int s) {
        Stream x = find(s);
        if (x == null) {
            return refuse(NO_SUCH);
        }
        return pass(x.n == 0 ? WITHOUT : x.greatestMiss());
    }

    // ---- of all, of two

    public int heavy(int s, int n, int i) {
        Stream x = find(s);
        if (x == null || i < 0) {
            return refuse(NO_SUCH);
        }
        if (!isShare(n)) {
            return refuse(NUMBER);
        }
        return pass(x.row.heavyValue(n, i));
    }

    public int apart(int s, int t) {
        Stream x = find(s);
        Stream y = findOther(s, t);
        if (x == null || y == null) {
            return refuse(NO_SUCH);
        }
        if (x.n == 0 || y.n == 0) {
            return refuse(NOT_SO);
        }
        return pass(Math.max(apartOver(x.row, x.row, y.row), apartOver(y.row, x.row, y.row)));
    }

    public int would(int s, int t) {
        Stream x = find(s);
        Stream y = findOther(s, t);
        if (x == null || y == null) {
            return refuse(NO_SUCH);
        }
        if (x.n + y.n > MAX_VALUES) {
            return refuse(NO_ROOM);
        }
        workRow.joinOf(x.row, y.row);
        workRow.shorten(boundOf(x.n + y.n, errorNow));
        return pass(workRow.length);
    }

    public int wins(int s, int t, boolean most) {
        Stream x = find(s);
        Stream y = findOther(s, t);
        if (x == null || y == null) {
            return refuse(NO_SUCH);
        }
        return pass(countWins(x.row, y.row, most));
    }

    public int whole(int what) {
        if (streamCount == 0 || what < 0 || what > 2) {
            return refuse(NO_SUCH);
        }
        int trouble = wholeTrouble();
        if (trouble != 0) {
            return refuse(trouble);
        }
        Row row = makeWhole();
        if (what == 0) {
            return pass(row.places());
        }
        return pass(what == 1 ? row.length : row.greatestOff());
    }

    public int overall(int r, int what) {
        if (streamCount == 0 || what < 0 || what > 1) {
            return refuse(NO_SUCH);
        }
        int trouble = wholeTrouble();
        if (trouble != 0) {
            return refuse(trouble);
        }
        Row row = makeWhole();
        if (r < 1 || r > row.places()) {
            return refuse(NUMBER);
        }
        int at = row.nearest(r, 0);
        return pass(what == 0 ? row.value[at] : row.offBy(at, r));
    }

    public int rounds(int s) {
        Stream x = find(s);
        if (x == null) {
            return refuse(NO_SUCH);
        }
        workRow.copyOf(x.row);
        return pass(workRow.roundsLeft(boundOf(x.n, errorNow)));
    }

    public int coarse(int s, int n) {
        Stream x = find(s);
        if (x == null) {
            return refuse(NO_SUCH);
        }
        if (n < LEAST_ERROR || n > errorNow) {
            return refuse(NUMBER);
        }
        workRow.copyOf(x.row);
        workRow.shorten(boundOf(x.n, n));
        return pass(workRow.length);
    }

    public int spread(int s, int v) {
        Stream x = find(s);
        if (x == null) {
            return refuse(NO_SUCH);
        }
        if (!isValue(v)) {
            return refuse(NUMBER);
        }
        return pass(x.row.spreadAhead(x.row.tuplesUpTo(v)));
    }

    public int finest(int s) {
        Stream x = find(s);
        if (x == null) {
            return refuse(NO_SUCH);
        }
        int widest = x.row.widest();
        for (int error = MOST_ERROR; error > LEAST_ERROR; error--) {
            if (widest <= boundOf(x.n, error)) {
                return pass(error);
            }
        }
        return pass(LEAST_ERROR);
    }

    // ---- acts

    public int push(int s, int v) {
        Stream x = find(s);
        if (x == null) {
            return refuse(NO_SUCH);
        }
        if (!isValue(v)) {
            return refuse(NUMBER);
        }
        if (x.n >= MAX_VALUES) {
            return refuse(NO_ROOM);
        }
        x.pushValue(v, errorNow);
        return pass(x.row.length);
    }

    public int draw(int s, int n, int m) {
        Stream x = find(s);
        if (x == null) {
            return refuse(NO_SUCH);
        }
        if (n < 1 || n > MOST_DRAWN || m < 1 || m > VALUE_KINDS) {
            return refuse(NUMBER);
        }
        if (x.n + n > MAX_VALUES) {
            return refuse(NO_ROOM);
        }
        for (int i = 0; i < n; i++) {
            seedNow = (75 * seedNow + 74) % SEEDS;
            x.pushValue(seedNow % m, errorNow);
        }
        return pass(x.row.length);
    }

    public boolean seed(int n) {
        if (n < 0 || n >= SEEDS) {
            latestTrouble = NUMBER;
            return false;
        }
        latestTrouble = 0;
        seedNow = n;
        return true;
    }

    public int compress(int s) {
        Stream x = find(s);
        if (x == null) {
            return refuse(NO_SUCH);
        }
        return pass(x.shortenRow(errorNow));
    }

    public int merge(int s, int t) {
        Stream x = find(s);
        Stream y = findOther(s, t);
        if (x == null || y == null) {
            return refuse(NO_SUCH);
        }
        if (x.n + y.n > MAX_VALUES) {
            return refuse(NO_ROOM);
        }
        workRow.joinOf(x.row, y.row);
        x.row.copyOf(workRow);
        x.addCounts(y);
        y.dropValues();
        x.shortenRow(errorNow);
        return pass(x.row.length);
    }

    public int clear(int s) {
        Stream x = find(s);
        if (x == null) {
            return refuse(NO_SUCH);
        }
        int gone = x.n;
        x.dropValues();
        return pass(gone);
    }

    public int every(int s, int n) {
        Stream x = find(s);
        if (x == null) {
            return refuse(NO_SUCH);
        }
        if (n < 1 || n > MOST_EVERY) {
            return refuse(NUMBER);
        }
        x.compressEvery = n;
        if (x.isDue()) {
            x.shortenRow(errorNow);
        }
        return pass(x.row.length);
    }

    public int error(int n) {
        if (streamCount == 0) {
            return refuse(NO_SUCH);
        }
        if (n < LEAST_ERROR || n > MOST_ERROR) {
            return refuse(NUMBER);
        }
        for (int s = 0; s < streamCount; s++) {
            Stream x = find(s);
            if (x != null && x.row.widest() > boundOf(x.n, n)) {
                return refuse(NOT_SO);
            }
        }
        int before = errorNow;
        errorNow = n;
        return pass(before);
    }

    // ---- what is told

    public int idle(int i) throws NoSuchElementException {
        int left = i;
        for (int s = 0; s < streamCount; s++) {
            Stream x = find(s);
            if (x != null && x.n == 0) {
                if (left == 0) {
                    return s;
                }
                left--;
            }
        }
        throw new NoSuchElementException("no such stream without values");
    }

    public int size() {
        return reader.taped;
    }

    public int trouble() {
        return latestTrouble;
    }

    // ---- what the calls share

    private int refuse(int trouble) {
        latestTrouble = trouble;
        return NONE;
    }

    private int pass(int told) {
        latestTrouble = 0;
        return told;
    }

    private Stream find(int s) {
        return s >= 0 && s < streamCount && s < MAX_STREAMS ? streams[s] : null;
    }

    private Stream findOther(int s, int t) {
        return s == t ? null : find(t);
    }

    private static boolean isValue(int v) {
        return v >= 0 && v < VALUE_KINDS;
    }

    private static boolean isShare(int n) {
        return n >= 1 && n <= MOST_SHARES;
    }

    private static boolean isPlace(Stream x, int r) {
        return r >= 1 && r <= x.n;
    }

    private static int boundOf(int n, int error) {
        return error < 1 ? 1 : Math.max(1, 2 * n / error);
    }

    private static int bandOf(int spread, int bound) {
        int k = 0;
        // bound less what is left of it by 2 to k, less 2 to k
        while (k < MOST_BAND && spread <= ((bound >> k) - 1) << k) {
            k++;
        }
        return k;
    }

    private void takeText() {
        errorNow = reader.errorTold;
        streamCount = reader.streamsTold;
        for (int s = 0; s < streamCount; s++) {
            if (streams[s] == null) {
                streams[s] = new Stream();
            }
            streams[s].begin(reader.everyTold[s]);
        }
        for (int i = 0; i < reader.pushesTold; i++) {
            Stream x = find(reader.pushTo[i]);
            if (x != null) {
                x.pushValue(reader.pushValue[i], errorNow);
            }
        }
    }

    private int sumOfAll(int what) {
        int sum = 0;
        for (int s = 0; s < streamCount; s++) {
            Stream x = find(s);
            if (x != null) {
                sum += what == 2 ? x.n : what == 3 ? x.row.length : x.compressions;
            }
        }
        return sum;
    }

    private static int countMeets(Stream x, Stream y, int n, int what) {
        int count = 0;
        int here = 0;
        int there = 0;
        for (int k = 0; k <= n; k++) {
            here = x.row.nearest(x.quotaPlace(k, n), here);
            there = y.row.nearest(y.quotaPlace(k, n), there);
            int v = x.row.value[here];
            int w = y.row.value[there];
            int kind = v == w ? 0 : v < w ? 1 : 2;
            if (kind == what) {
                count++;
            }
        }
        return count;
    }

    private static int apartOver(Row values, Row x, Row y) {
        int greatest = 0;
        for (int i = 0; i < values.length; i++) {
            int v = values.value[i];
            greatest = Math.max(greatest, Math.max(hundredthsApart(x, y, v), hundredthsApart(y, x, v)));
        }
        return greatest;
    }

    private static int hundredthsApart(Row x, Row y, int v) {
        int here = x.places();
        int there = y.places();
        if (here < 1 || there < 1) {
            return 0;
        }
        return 100 * (x.sureUpTo(v) * there - y.mostUpTo(v) * here) / (here * there);
    }

    private static int countWins(Row x, Row y, boolean most) {
        int places = x.places();
        int beyond = y.places();
        int at = 0;
        int count = 0;
        for (int r = 1; r <= places; r++) {
            at = most ? x.floorAt(r, at) : x.ceilingAt(r, at);
            int v = x.value[at];
            count += beyond - (most ? y.sureUpTo(v) : y.mostUpTo(v));
        }
        return count;
    }

    private int wholeTrouble() {
        int n = sumOfAll(2);
        if (n == 0) {
            return NOT_SO;
        }
        return n > MAX_VALUES ? NO_ROOM : 0;
    }

    private Row makeWhole() {
        Row made = workRow;
        Row next = spareRow;
        made.length = 0;
        for (int s = 0; s < streamCount; s++) {
            Stream x = find(s);
            if (x == null || x.n == 0) {
                continue;
            }
            if (made.length == 0) {
                // the first one is not COMPRESSED: nothing was MERGED into it yet
                made.copyOf(x.row);
            } else {
                next.joinOf(made, x.row);
                next.shorten(boundOf(next.places(), errorNow));
                Row old = made;
                made = next;
                next = old;
            }
        }
        return made;
    }

    /** A STREAM: its ROW and, beside it, how often each VALUE came. */
    private static final class Stream {
        final Row row = new Row();
        final int[] counts = new int[VALUE_KINDS];
        int n = 0;
        int compressEvery = 1;
        int pushesSince = 0;
        int compressions = 0;

        void begin(int everyTold) {
            dropValues();
            compressEvery = everyTold;
            compressions = 0;
        }

        void dropValues() {
            Arrays.fill(counts, 0);
            row.length = 0;
            n = 0;
            pushesSince = 0;
        }

        void pushValue(int v, int error) {
            if (n >= MAX_VALUES || !isValue(v)) {
                return;
            }
            row.insert(v);
            counts[v]++;
            n++;
            pushesSince++;
            if (isDue()) {
                shortenRow(error);
            }
        }

        boolean isDue() {
            return pushesSince >= compressEvery;
        }

        int shortenRow(int error) {
            pushesSince = 0;
            compressions++;
            return row.shorten(boundOf(n, error));
        }

        void addCounts(Stream other) {
            for (int v = 0; v < VALUE_KINDS; v++) {
                counts[v] += other.counts[v];
            }
            n += other.n;
        }

        int unlikeValues() {
            int unlike = 0;
            for (int v = 0; v < VALUE_KINDS; v++) {
                if (counts[v] > 0) {
                    unlike++;
                }
            }
            return unlike;
        }

        int sumOfValues() {
            int sum = 0;
            for (int v = 0; v < VALUE_KINDS; v++) {
                sum += v * counts[v];
            }
            return sum;
        }

        int valueAt(int r) {
            int left = r;
            for (int v = 0; v < VALUE_KINDS; v++) {
                left -= counts[v];
                if (left <= 0) {
                    return v;
                }
            }
            return NONE;
        }

        int quotaPlace(int k, int shares) {
            return shares < 1 ? 1 : Math.max(1, (n * k + shares - 1) / shares);
        }

        int missAt(int r) {
            int v = row.value[row.nearest(r, 0)];
            return missOf(r, v, valuesBetween(0, v));
        }

        int greatestMiss() {
            int greatest = 0;
            int at = 0;
            int v = 0;
            int below = 0;
            for (int r = 1; r <= n; r++) {
                at = row.nearest(r, at);
                // ANSWERS never fall as places rise, so what lies below is added up once
                below += valuesBetween(v, row.value[at]);
                v = row.value[at];
                greatest = Math.max(greatest, missOf(r, v, below));
            }
            return greatest;
        }

        private int valuesBetween(int from, int to) {
            int sum = 0;
            for (int v = from; v < to && v < VALUE_KINDS; v++) {
                sum += counts[v];
            }
            return sum;
        }

        private int missOf(int r, int v, int below) {
            int ahead = below + 1 - r;
            int behind = r - below - counts[v];
            return Math.max(0, Math.max(ahead, behind));
        }

        int unevenness(int shares) {
            int greatest = 0;
            int least = MAX_VALUES;
            int from = row.nearest(quotaPlace(0, shares), 0);
            for (int k = 1; k <= shares; k++) {
                int to = row.nearest(quotaPlace(k, shares), from);
                greatest = Math.max(greatest, row.countAbove(row.value[from], row.value[to], true));
                least = Math.min(least, row.countAbove(row.value[from], row.value[to], false));
                from = to;
            }
            return greatest - least;
        }
    }

    /**
     * TUPLES in their order. LOW is kept and GAP is told from it, so that what goes
     * leaves its GAP to the one behind it by itself.
     */
    private static final class Row {
        final int[] value = new int[MAX_VALUES];
        final int[] low = new int[MAX_VALUES];
        final int[] spreads = new int[MAX_VALUES];
        // only as told by the latest takeBands
        final int[] bandAt = new int[MAX_VALUES];
        int length = 0;

        int places() {
            return lowAhead(length);
        }

        int lowAhead(int i) {
            return i < 1 || i > MAX_VALUES ? 0 : low[i - 1];
        }

        int gap(int i) {
            return low[i] - lowAhead(i);
        }

        int high(int i) {
            return low[i] + spreads[i];
        }

        int width(int i) {
            return low[i] - lowAhead(i) + spreads[i];
        }

        int widest() {
            int widest = 0;
            for (int i = 0; i < length; i++) {
                widest = Math.max(widest, width(i));
            }
            return widest;
        }

        int tuplesUpTo(int v) {
            int count = 0;
            for (int step = 512; step > 0; step /= 2) {
                if (count + step <= length && value[count + step - 1] <= v) {
                    count += step;
                }
            }
            return count;
        }

        int sureUpTo(int v) {
            return lowAhead(tuplesUpTo(v));
        }

        int mostUpTo(int v) {
            int greater = tuplesUpTo(v);
            return greater < length ? high(greater) - 1 : places();
        }

        /** How many VALUES are above one and no greater than another: at least, at most. */
        int countAbove(int above, int upTo, boolean most) {
            if (most) {
                return mostUpTo(upTo) - sureUpTo(above);
            }
            return Math.max(0, sureUpTo(upTo) - mostUpTo(above));
        }

        int firstWrong(int n, int bound) {
            for (int i = 1; i < length; i++) {
                if (value[i] < value[i - 1]) {
                    return 1;
                }
            }
            for (int i = 0; i < length; i++) {
                if (gap(i) < 1 || spreads[i] < 0) {
                    return 2;
                }
            }
            if (places() != n) {
                return 3;
            }
            if (widest() > bound) {
                return 4;
            }
            return length == 0 || endsAreTold() ? 0 : 5;
        }

        private boolean endsAreTold() {
            return low[0] == 1 && spreads[0] == 0 && (length < 1 || spreads[length - 1] == 0);
        }

        // ---- what changes a row

        void insert(int v) {
            if (length >= MAX_VALUES) {
                return;
            }
            int at = tuplesUpTo(v);
            int spreadNow = spreadAhead(at);
            System.arraycopy(value, at, value, at + 1, length - at);
            System.arraycopy(spreads, at, spreads, at + 1, length - at);
            for (int i = length; i > at; i--) {
                low[i] = low[i - 1] + 1;
            }
            value[at] = v;
            spreads[at] = spreadNow;
            low[at] = lowAhead(at) + 1;
            length++;
        }

        /** The SPREAD of a TUPLE that comes right ahead of the i-th one. */
        int spreadAhead(int i) {
            return i <= 0 || i >= length ? 0 : width(i) - 1;
        }

        void copyOf(Row other) {
            length = other.length;
            System.arraycopy(other.value, 0, value, 0, length);
            System.arraycopy(other.low, 0, low, 0, length);
            System.arraycopy(other.spreads, 0, spreads, 0, length);
        }

        void joinOf(Row into, Row from) {
            int i = 0;
            int j = 0;
            length = Math.min(MAX_VALUES, into.length + from.length);
            for (int k = 0; k < length; k++) {
                boolean first = j >= from.length || i < into.length && into.value[i] <= from.value[j];
                if (first) {
                    joinTuple(k, into, i, from, j);
                    i++;
                } else {
                    joinTuple(k, from, j, into, i);
                    j++;
                }
            }
        }

        private void joinTuple(int k, Row mine, int i, Row other, int next) {
            value[k] = mine.value[i];
            low[k] = mine.low[i] + other.lowAhead(next);
            spreads[k] = mine.spreads[i] + (next < other.length ? other.width(next) - 1 : 0);
        }

        void takeBands(int bound) {
            for (int i = 0; i < length; i++) {
                bandAt[i] = bandOf(spreads[i], bound);
            }
        }

        int familyFrom(int i) {
            int first = i;
            while (first > 1 && bandAt[first - 1] < bandAt[i]) {
                first--;
            }
            return first;
        }

        boolean mayGo(int i, int first, int behind, int bound) {
            return bandAt[i] <= bandAt[behind] && low[behind] - lowAhead(first) + spreads[behind] <= bound;
        }

        /** COMPRESSION: what stays is gathered at the back, so that nothing moves twice. */
        int shorten(int bound) {
            if (length < 3) {
                return 0;
            }
            takeBands(bound);
            int behind = length - 1;
            int i = length - 2;
            while (i >= 1) {
                int first = familyFrom(i);
                if (mayGo(i, first, behind, bound)) {
                    i = first - 1;
                } else {
                    behind--;
                    moveTuple(i, behind);
                    i--;
                }
            }
            behind--;
            moveTuple(0, behind);
            dropAhead(behind);
            return behind;
        }

        private void moveTuple(int from, int to) {
            value[to] = value[from];
            low[to] = low[from];
            spreads[to] = spreads[from];
            bandAt[to] = bandAt[from];
        }

        private void dropAhead(int gone) {
            length -= gone;
            System.arraycopy(value, gone, value, 0, length);
            System.arraycopy(low, gone, low, 0, length);
            System.arraycopy(spreads, gone, spreads, 0, length);
        }

        int roundsLeft(int bound) {
            int rounds = 0;
            while (rounds < MAX_VALUES && shorten(bound) > 0) {
                rounds++;
            }
            return rounds;
        }

        int tuplesOfBand(int k, int bound) {
            int count = 0;
            for (int i = 0; i < length; i++) {
                if (bandOf(spreads[i], bound) == k) {
                    count++;
                }
            }
            return count;
        }

        // ---- what a row answers

        int offBy(int i, int r) {
            return Math.max(r - low[i], high(i) - r);
        }

        /**
         * The TUPLE of the ANSWER to r. The ANSWER never falls as places rise, so the one to
         * a lesser place may be told as where to begin.
         */
        int nearest(int r, int from) {
            int best = from;
            int least = offBy(from, r);
            // LOWS rise: no TUPLE from here on is nearer than its own LOW
            for (int i = from + 1; i < length && low[i] - r < least; i++) {
                int off = offBy(i, r);
                if (off < least) {
                    least = off;
                    best = i;
                }
            }
            return best;
        }

        int greatestOff() {
            int greatest = 0;
            int at = 0;
            int places = places();
            for (int r = 1; r <= places; r++) {
                at = nearest(r, at);
                greatest = Math.max(greatest, offBy(at, r));
            }
            return greatest;
        }

        int exactPlaces() {
            int count = 0;
            int at = 0;
            int places = places();
            for (int r = 1; r <= places; r++) {
                at = nearest(r, at);
                if (offBy(at, r) == 0) {
                    count++;
                }
            }
            return count;
        }

        /** The TUPLE of the FLOOR of r; from: that of a lesser place, or the first one. */
        int floorAt(int r, int from) {
            int last = from;
            for (int i = from; i < length && low[i] <= r; i++) {
                if (high(i) <= r) {
                    last = i;
                }
            }
            return last;
        }

        /** The TUPLE of the CEILING of r; from: that of a lesser place, or the first one. */
        int ceilingAt(int r, int from) {
            int first = from;
            while (first < length - 1 && low[first] < r) {
                first++;
            }
            return first;
        }

        /** How many places have a FLOOR that isn't their CEILING, or the greatest difference of both. */
        int doubts(boolean greatest) {
            int count = 0;
            int widest = 0;
            int floor = 0;
            int ceiling = 0;
            int places = places();
            for (int r = 1; r <= places; r++) {
                floor = floorAt(r, floor);
                ceiling = ceilingAt(r, ceiling);
                int doubt = value[ceiling] - value[floor];
                widest = Math.max(widest, doubt);
                count += doubt != 0 ? 1 : 0;
            }
            return greatest ? widest : count;
        }

        int sumOfPlaces(boolean most) {
            int sum = 0;
            int at = 0;
            int places = places();
            for (int r = 1; r <= places; r++) {
                at = most ? ceilingAt(r, at) : floorAt(r, at);
                sum += value[at];
            }
            return sum;
        }

        int heavyValue(int shares, int index) {
            int places = places();
            int left = index;
            for (int i = 0; i < length; i++) {
                boolean again = i > 0 && value[i] == value[i - 1];
                if (!again && countAbove(value[i] - 1, value[i], false) * shares >= places) {
                    if (left == 0) {
                        return value[i];
                    }
                    left--;
                }
            }
            return WITHOUT;
        }
    }

    /** THE TAPE; reads a TEXT from it, from the left on, up to its first FAULT. */
    private static final class TextReader {
        private static final int END = 0;
        private static final int BAD = 1;
        private static final int WORD = 2;
        private static final int WHOLE = 3;
        private static final int PARTING = 4;

        private static final int FORM = 1;
        private static final int BOUNDS = 2;
        private static final int NAME = 3;
        private static final int AGAIN = 4;
        private static final int MANY = 5;
        private static final int LACKS = 6;

        private static final int MOST_LETTERS = 6;
        private static final int MOST_DIGITS = 3;

        private final int[] bytes = new int[TAPE_BYTES];
        int taped = 0;
        private int end = 0;
        // the TOKEN that is met: what it is, its place, the place behind it, its number
        private int kind = END;
        private int at = 0;
        private int behind = 0;
        private int token = 0;

        int fault = 0;
        int place = 0;
        int errorTold = 0;
        int streamsTold = 0;
        private final int[] names = new int[MAX_STREAMS];
        final int[] everyTold = new int[MAX_STREAMS];
        int pushesTold = 0;
        final int[] pushTo = new int[MAX_PUSHES_TOLD];
        final int[] pushValue = new int[MAX_PUSHES_TOLD];

        void putBytes(int number) {
            for (int shift = 24; shift >= 0; shift -= 8) {
                if (taped < TAPE_BYTES) {
                    bytes[taped] = (number >>> shift) & 255;
                    taped++;
                }
            }
        }

        /** The first n bytes are the TEXT; THE TAPE is empty then. */
        void readText(int n) {
            end = Math.min(n, taped);
            taped = 0;
            behind = 0;
            fault = 0;
            place = NONE;
            errorTold = 0;
            streamsTold = 0;
            pushesTold = 0;
            boolean more = true;
            for (int line = 0; line <= TAPE_BYTES && more; line++) {
                step();
                more = readLine() && readParting();
            }
        }

        /** Whether a further LINE is due. */
        private boolean readParting() {
            if (kind == PARTING) {
                return true;
            }
            if (kind != END) {
                return fail(FORM);
            }
            return streamsTold == 0 && fail(LACKS);
        }

        private boolean readLine() {
            if (isWord("ranks")) {
                return readRanks();
            }
            if (isWord("stream")) {
                return readStream();
            }
            if (isWord("push")) {
                return readPush();
            }
            return fail(FORM);
        }

        private boolean readRanks() {
            if (errorTold != 0) {
                return fail(AGAIN);
            }
            step();
            if (!wantsWord("error")) {
                return false;
            }
            step();
            if (!wantsWhole(LEAST_ERROR, MOST_ERROR)) {
                return false;
            }
            errorTold = token;
            step();
            return true;
        }

        private boolean readStream() {
            if (errorTold == 0) {
                return fail(LACKS);
            }
            if (streamsTold >= MAX_STREAMS) {
                return fail(MANY);
            }
            step();
            if (!isName()) {
                return fail(FORM);
            }
            if (streamNamed(token) != NONE) {
                return fail(NAME);
            }
            names[streamsTold] = token;
            step();
            if (!wantsWord("every")) {
                return false;
            }
            step();
            if (!wantsWhole(1, MOST_EVERY)) {
                return false;
            }
            everyTold[streamsTold] = token;
            streamsTold++;
            step();
            return true;
        }

        private boolean readPush() {
            if (errorTold == 0) {
                return fail(LACKS);
            }
            step();
            if (!isName()) {
                return fail(FORM);
            }
            int s = streamNamed(token);
            if (s == NONE) {
                return fail(NAME);
            }
            step();
            if (!wantsWhole(0, VALUE_KINDS - 1)) {
                return false;
            }
            for (int i = 0; i < MAX_PUSHES_TOLD && kind == WHOLE; i++) {
                keepPush(s, token);
                step();
            }
            return true;
        }

        private void keepPush(int s, int v) {
            if (pushesTold < MAX_PUSHES_TOLD) {
                pushTo[pushesTold] = s;
                pushValue[pushesTold] = v;
                pushesTold++;
            }
        }

        private boolean wantsWord(String text) {
            return isWord(text) || fail(FORM);
        }

        private boolean wantsWhole(int least, int most) {
            if (kind != WHOLE) {
                return fail(FORM);
            }
            return token >= least && token <= most || fail(BOUNDS);
        }

        private boolean isWord(String text) {
            if (kind != WORD || behind - at != text.length()) {
                return false;
            }
            for (int i = 0; i < text.length(); i++) {
                if (bytes[at + i] != text.charAt(i)) {
                    return false;
                }
            }
            return true;
        }

        private boolean isName() {
            return kind == WORD && !isWord("ranks") && !isWord("stream") && !isWord("push");
        }

        private int streamNamed(int name) {
            for (int s = 0; s < streamsTold; s++) {
                if (names[s] == name) {
                    return s;
                }
            }
            return NONE;
        }

        private boolean fail(int number) {
            fault = number;
            place = at;
            return false;
        }

        private void step() {
            at = behind;
            while (at < end && bytes[at] == ' ') {
                at++;
            }
            behind = at;
            token = 0;
            if (at >= end) {
                kind = END;
            } else if (bytes[at] == ';') {
                kind = PARTING;
                behind++;
            } else if (isLetter(bytes[at])) {
                stepOverWord();
            } else if (isDigit(bytes[at])) {
                stepOverWhole();
            } else {
                kind = BAD;
            }
        }

        private void stepOverWord() {
            while (behind < end && isLetter(bytes[behind])) {
                // by 27 no two WORDS of up to 6 letters get the same number
                token = token * 27 + bytes[behind] - 'a' + 1;
                behind++;
            }
            kind = behind - at <= MOST_LETTERS ? WORD : BAD;
        }

        private void stepOverWhole() {
            while (behind < end && isDigit(bytes[behind])) {
                token = token * 10 + bytes[behind] - '0';
                behind++;
            }
            kind = behind - at <= MOST_DIGITS ? WHOLE : BAD;
        }

        private static boolean isLetter(int c) {
            return c >= 'a' && c <= 'z';
        }

        private static boolean isDigit(int c) {
            return c >= '0' && c <= '9';
        }
    }
}
