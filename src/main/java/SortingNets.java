import java.util.NoSuchElementException;

/** Four networks of comparers, told as texts or made, and what can be asked of them. */
public final class SortingNets {
    public static final int NONE = -1;

    private static final int NETS = 4;
    private static final int FIRST_WIRES = 4;
    private static final int FEWEST_WIRES = 2;
    private static final int MOST_WIRES = 8;
    private static final int MOST_COMPARERS = 60;
    private static final int MOST_SIGNS = 200;
    private static final int MOST_DIGITS = 4;
    private static final int MOST_PATTERNS = 256;
    private static final int MOST_ORDERS = 5040;
    private static final int MOST_WIRES_IN_ORDERS = 7;
    private static final int MOST_WIRES_WITHIN = 6;
    private static final int MOST_TURNS = 720;
    private static final int MOST_WIRES_LEAST = 5;
    private static final int MOST_WIRES_REST = 4;
    /** Above what any net of 4 wires needs: 5 sort whatever comes. */
    private static final int MOST_REST = 6;
    private static final int WAYS = 5;
    private static final int SECOND = -2;
    private static final int THIRD = -3;
    private static final int AT_TEXT = -21;

    /** Wire w of the patterns 0 .. 63, a bit for each pattern. */
    private static final long[] COLUMNS = {
        0xAAAAAAAAAAAAAAAAL, 0xCCCCCCCCCCCCCCCCL, 0xF0F0F0F0F0F0F0F0L,
        0xFF00FF00FF00FF00L, 0xFFFF0000FFFF0000L, 0xFFFFFFFF00000000L
    };

    private final Net[] nets;
    private final Net draft;
    private final Tangle tangle;
    private final Text text;
    private final Numbers told;
    private final Layers layers;
    private final Trial trial;
    private final Trial second;
    private final PatternSet found;
    private final int[] results;
    private final long[] notices;
    private final int[] values;
    private final int[] places;
    private final int[] path;
    private final Search search;

    public SortingNets() {
        nets = new Net[NETS];
        for (int s = 0; s < NETS; s++) {
            nets[s] = new Net();
        }
        draft = new Net();
        tangle = new Tangle();
        text = new Text();
        told = new Numbers();
        layers = new Layers();
        trial = new Trial();
        second = new Trial();
        found = new PatternSet();
        results = new int[MOST_PATTERNS];
        notices = new long[MOST_PATTERNS];
        values = new int[MOST_WIRES];
        places = new int[MOST_WIRES];
        path = new int[MOST_REST];
        search = new Search();
    }

    // ---- nets that are told, made

    public int sign(int v) {
        return text.append(v) ? text.length : NONE;
    }

    public boolean end(int n) {
        if (n < 0 || n > text.length) {
            return false;
        }
        text.length = n;
        return true;
    }

    public int net(int s) {
        int stop = readNet();
        text.length = 0;
        if (stop >= 0) {
            return AT_TEXT - stop;
        }
        if (!isNet(s)) {
            return NONE;
        }
        nets[s].take(draft);
        told.clear();
        for (int w = 0; w < draft.wires; w++) {
            told.append(tangle.placeOf(w));
        }
        return draft.size;
    }

    public int makes(int s, int n, int way) {
        if (!isNet(s) || !isWires(n) || way < 0 || way >= WAYS) {
            return NONE;
        }
        Net made = nets[s];
        made.clear(n);
        switch (way) {
            case 1:
                makeBubbles(made);
                break;
            case 2:
                makeInsertions(made);
                break;
            case 3:
                makeBricks(made);
                break;
            case 4:
                makeMergeExchange(made);
                break;
            default:
                break;
        }
        return made.size;
    }

    public int draws(int s, int n, int k, int seed) {
        if (!isNet(s) || !isWires(n) || k < 0 || k > MOST_COMPARERS) {
            return NONE;
        }
        Net drawn = nets[s];
        drawn.clear(n);
        int state = seed;
        for (int c = 0; c < k; c++) {
            state = nextState(state);
            int a = (state >>> 16) % n;
            state = nextState(state);
            int b = (state >>> 16) % (n - 1);
            if (b >= a) {
                b++;
            }
            drawn.append(Math.min(a, b), Math.max(a, b));
        }
        judge(drawn, NONE);
        return found.size();
    }

    public int adds(int s, int i, int j) {
        if (!isNet(s) || !nets[s].isWire(i) || !nets[s].isWire(j) || i >= j) {
            return NONE;
        }
        return nets[s].append(i, j) ? nets[s].size : NONE;
    }

    public int drops(int s, int k) {
        if (!isComparer(s, k)) {
            return NONE;
        }
        nets[s].remove(k);
        return nets[s].size;
    }

    public int swaps(int s, int k) {
        if (!isComparer(s, k) || k + 1 >= nets[s].size) {
            return NONE;
        }
        return nets[s].exchangeWithNext(k) ? 1 : 0;
    }

    public int copies(int s, int t) {
        if (!isNet(s) || !isNet(t)) {
            return NONE;
        }
        nets[t].take(nets[s]);
        return nets[t].size;
    }

    public int joins(int s, int t) {
        if (!isNet(s) || !isNet(t)) {
            return NONE;
        }
        Net first = nets[s];
        Net behind = nets[t];
        if (first.wires != behind.wires) {
            return SECOND;
        }
        int more = behind.size;
        if (first.size + more > MOST_COMPARERS) {
            return THIRD;
        }
        for (int k = 0; k < more; k++) {
            first.append(behind.low[k], behind.high[k]);
        }
        return first.size;
    }

    public int flips(int s) {
        if (!isNet(s)) {
            return NONE;
        }
        nets[s].reverse();
        return nets[s].size;
    }

    public int mirrors(int s) {
        if (!isNet(s)) {
            return NONE;
        }
        nets[s].reflect();
        return nets[s].size;
    }

    public int lays(int s) {
        if (!isNet(s)) {
            return NONE;
        }
        Net laid = nets[s];
        layers.read(laid);
        draft.clear(laid.wires);
        for (int layer = 1; layer <= layers.deepest; layer++) {
            appendLayer(laid, layer);
        }
        int moved = laid.differences(draft);
        laid.take(draft);
        return moved;
    }

    public int cuts(int s, int w, boolean great, int t) {
        if (!isNet(s) || !isNet(t) || !nets[s].isWire(w)) {
            return NONE;
        }
        Net source = nets[s];
        if (source.wires <= FEWEST_WIRES) {
            return SECOND;
        }
        nameLines(source.wires, w);
        tangle.start(source.wires - 1);
        draft.clear(source.wires - 1);
        int here = w;
        for (int k = 0; k < source.size; k++) {
            here = cutAt(source.low[k], source.high[k], here, great);
        }
        nets[t].take(draft);
        told.clear();
        told.append(here);
        return draft.size;
    }

    // ---- what they are

    public int comparer(int s, int k) {
        if (!isComparer(s, k)) {
            return NONE;
        }
        layers.read(nets[s]);
        told.clear();
        told.append(layers.of[k]);
        return code(nets[s].low[k], nets[s].high[k]);
    }

    public int depth(int s) {
        if (!isNet(s)) {
            return NONE;
        }
        layers.read(nets[s]);
        told.clear();
        for (int layer = 1; layer <= layers.deepest; layer++) {
            told.append(layers.sizeOf(layer));
        }
        return layers.deepest;
    }

    public int runs(int s, int pattern) {
        if (!isPattern(s, pattern)) {
            return NONE;
        }
        Net asked = nets[s];
        int now = pattern;
        long busy = 0;
        for (int k = 0; k < asked.size; k++) {
            int i = asked.low[k];
            int j = asked.high[k];
            if (((now >> i) & 1) > ((now >> j) & 1)) {
                busy |= 1L << k;
                now ^= (1 << i) | (1 << j);
            }
        }
        told.clear();
        told.append(busy);
        return now;
    }

    public int tells(int s) {
        if (!isNet(s)) {
            text.length = 0;
            return NONE;
        }
        Net asked = nets[s];
        int stop = readValues(asked.wires);
        text.length = 0;
        if (stop >= 0) {
            return AT_TEXT - stop;
        }
        int busy = 0;
        for (int k = 0; k < asked.size; k++) {
            busy += orderValues(asked.low[k], asked.high[k]);
        }
        tellFirst(values, asked.wires);
        return busy;
    }

    public int sorts(int s) {
        if (!isNet(s)) {
            return NONE;
        }
        judge(nets[s], NONE);
        told.clear();
        told.append(found.size());
        told.append(found.first());
        return found.isEmpty() ? 1 : 0;
    }

    public int image(int s) {
        if (!isNet(s)) {
            return NONE;
        }
        takeImage(nets[s]);
        int sorted = 0;
        for (int ones = 0; ones <= nets[s].wires; ones++) {
            if (found.holds(topOnes(nets[s].wires, ones))) {
                sorted++;
            }
        }
        told.clear();
        told.append(sorted);
        return found.size();
    }

    public int comes(int s, int pattern) {
        if (!isPattern(s, pattern)) {
            return NONE;
        }
        findResults(nets[s]);
        int first = NONE;
        int many = 0;
        for (int p = (1 << nets[s].wires) - 1; p >= 0; p--) {
            if (results[p] == pattern) {
                first = p;
                many++;
            }
        }
        told.clear();
        told.append(first);
        return many;
    }

    public int ranks(int s, int r) {
        if (!isNet(s) || !nets[s].isWire(r)) {
            return NONE;
        }
        findReach(nets[s]);
        return tellBits(values[r]);
    }

    public int leaves(int s, int w) {
        if (!isNet(s) || !nets[s].isWire(w)) {
            return NONE;
        }
        findReach(nets[s]);
        int bits = 0;
        for (int r = 0; r < nets[s].wires; r++) {
            bits |= ((values[r] >> w) & 1) << r;
        }
        return tellBits(bits);
    }

    public int orders(int s) {
        if (!isNet(s)) {
            return NONE;
        }
        int n = nets[s].wires;
        if (n > MOST_WIRES_IN_ORDERS) {
            return SECOND;
        }
        judge(nets[s], NONE);
        for (int w = 0; w < n; w++) {
            values[w] = w;
        }
        told.clear();
        int bad = 0;
        for (int turn = 0; turn < MOST_ORDERS; turn++) {
            if (leavesUnsorted(n)) {
                if (bad == 0) {
                    tellFirst(values, n);
                }
                bad++;
            }
            if (!nextOrder(n)) {
                break;
            }
        }
        return bad;
    }

    public int merges(int s, int a) {
        if (!isNet(s) || !nets[s].isWire(a) || a == 0) {
            return NONE;
        }
        int n = nets[s].wires;
        judge(nets[s], NONE);
        int many = 0;
        int bad = 0;
        for (int below = 0; below <= a; below++) {
            for (int above = 0; above <= n - a; above++) {
                many++;
                if (found.holds(topOnes(a, below) | topOnes(n, above))) {
                    bad++;
                }
            }
        }
        told.clear();
        told.append(many);
        return bad;
    }

    // ---- comparers that are needed

    public long idle(int s) {
        if (!isNet(s)) {
            return NONE;
        }
        Net asked = nets[s];
        trial.start(asked.wires);
        long bits = 0;
        for (int k = 0; k < asked.size; k++) {
            if (!trial.isBusy(asked.low[k], asked.high[k])) {
                bits |= 1L << k;
            }
            trial.compare(asked.low[k], asked.high[k]);
        }
        told.clear();
        told.append(Long.bitCount(bits));
        return bits;
    }

    public long spare(int s) {
        if (!isNet(s)) {
            return NONE;
        }
        if (!isSorting(nets[s], NONE)) {
            return SECOND;
        }
        long bits = 0;
        for (int k = 0; k < nets[s].size; k++) {
            if (isSorting(nets[s], k)) {
                bits |= 1L << k;
            }
        }
        told.clear();
        told.append(Long.bitCount(bits));
        return bits;
    }

    public int thins(int s) {
        if (!isNet(s)) {
            return NONE;
        }
        Net thinned = nets[s];
        if (!isSorting(thinned, NONE)) {
            return SECOND;
        }
        int before = thinned.size;
        for (int k = before - 1; k >= 0; k--) {
            if (isSorting(thinned, k)) {
                thinned.remove(k);
            }
        }
        return before - thinned.size;
    }

    public int broken(int s, int k, int how) {
        if (!isComparer(s, k) || how < 0 || how > 2) {
            return NONE;
        }
        Net asked = nets[s];
        trial.start(asked.wires);
        trial.runPart(asked, 0, k);
        if (how == 1) {
            trial.exchange(asked.low[k], asked.high[k]);
        } else if (how == 2) {
            trial.compare(asked.high[k], asked.low[k]);
        }
        trial.runPart(asked, k + 1, asked.size);
        trial.findUnsorted(found);
        told.clear();
        told.append(found.first());
        return found.size();
    }

    public int tests(int s) {
        if (!isNet(s)) {
            return NONE;
        }
        if (!isSorting(nets[s], NONE)) {
            return SECOND;
        }
        int patterns = 1 << nets[s].wires;
        long left = findNotices(nets[s]);
        told.clear();
        for (int turn = 0; left != 0 && turn < MOST_COMPARERS; turn++) {
            int best = 0;
            for (int p = 1; p < patterns; p++) {
                if (Long.bitCount(notices[p] & left) > Long.bitCount(notices[best] & left)) {
                    best = p;
                }
            }
            told.append(best);
            left &= ~notices[best];
        }
        return told.size;
    }

    public int helps(int s) {
        if (!isNet(s)) {
            return NONE;
        }
        int n = nets[s].wires;
        second.start(n);
        second.runPart(nets[s], 0, nets[s].size);
        int best = NONE;
        int fewest = MOST_PATTERNS;
        for (int i = 0; i < n - 1; i++) {
            for (int j = i + 1; j < n; j++) {
                trial.take(second);
                trial.compare(i, j);
                trial.findUnsorted(found);
                int many = found.size();
                if (many < fewest) {
                    fewest = many;
                    best = code(i, j);
                }
            }
        }
        told.clear();
        told.append(fewest);
        return best;
    }

    // ---- two nets

    public int same(int s, int t) {
        if (!isNet(s) || !isNet(t)) {
            return NONE;
        }
        if (nets[s].wires != nets[t].wires) {
            return SECOND;
        }
        trial.start(nets[s].wires);
        trial.runPart(nets[s], 0, nets[s].size);
        second.start(nets[t].wires);
        second.runPart(nets[t], 0, nets[t].size);
        trial.findUnlike(second, found);
        told.clear();
        told.append(found.size());
        told.append(found.first());
        return found.isEmpty() ? 1 : 0;
    }

    public int within(int s, int t) {
        if (!isNet(s) || !isNet(t)) {
            return NONE;
        }
        int n = nets[s].wires;
        if (n != nets[t].wires) {
            return SECOND;
        }
        if (n > MOST_WIRES_WITHIN) {
            return THIRD;
        }
        int ways = Sets.waysWithin(smallImage(nets[s]), smallImage(nets[t]), n, 0, MOST_TURNS);
        told.clear();
        told.append(ways);
        return ways > 0 ? 1 : 0;
    }

    // ---- how few will do

    public int least(int n) {
        if (n < 1 || n > MOST_WIRES_LEAST) {
            return NONE;
        }
        return search.tellSteps(n, false, told);
    }

    public int shallow(int n) {
        if (n < 1 || n > MOST_WIRES_LEAST) {
            return NONE;
        }
        return search.tellSteps(n, true, told);
    }

    public int rest(int s) {
        if (!isNet(s)) {
            return NONE;
        }
        int n = nets[s].wires;
        if (n > MOST_WIRES_REST) {
            return SECOND;
        }
        long from = smallImage(nets[s]);
        int fewest = 0;
        while (fewest < MOST_REST && !isFinishedBy(from, n, 0, fewest, path)) {
            fewest++;
        }
        tellFirst(path, fewest);
        return fewest;
    }

    public int has(int s, int what) {
        if (!isNet(s) || what < 0 || what > 1) {
            return NONE;
        }
        return what == 0 ? nets[s].wires : nets[s].size;
    }

    public int count(int what) {
        switch (what) {
            case 0:
                return told.size;
            case 1:
                return text.length;
            case 2:
                return allComparers();
            default:
                return NONE;
        }
    }

    public long row(int i) throws NoSuchElementException {
        if (i < 0 || i >= told.size) {
            throw new NoSuchElementException();
        }
        return told.numbers[i];
    }

    // ---- what the calls have in common

    private static boolean isNet(int s) {
        return s >= 0 && s < NETS;
    }

    private static boolean isWires(int n) {
        return n >= FEWEST_WIRES && n <= MOST_WIRES;
    }

    private boolean isComparer(int s, int k) {
        return isNet(s) && k >= 0 && k < nets[s].size;
    }

    private boolean isPattern(int s, int pattern) {
        return isNet(s) && pattern >= 0 && pattern < (1 << nets[s].wires);
    }

    private int allComparers() {
        int all = 0;
        for (int s = 0; s < NETS; s++) {
            all += nets[s].size;
        }
        return all;
    }

    private static int code(int i, int j) {
        return 10 * i + j;
    }

    /** The pattern whose wires below n hold so many ones, sorted. */
    private static int topOnes(int n, int ones) {
        return (1 << n) - (1 << (n - ones));
    }

    private void tellFirst(int[] numbers, int many) {
        told.clear();
        for (int k = 0; k < many && k < numbers.length; k++) {
            told.append(numbers[k]);
        }
    }

    private int tellBits(int bits) {
        told.clear();
        told.append(Integer.bitCount(bits));
        return bits;
    }

    // ---- reading the text

    /** Reads the text into the draft: where it can't go on, or NONE. */
    private int readNet() {
        int n = text.digitAt(0);
        if (!isWires(n)) {
            return 0;
        }
        if (text.signAt(1) != ':') {
            return 1;
        }
        draft.clear(n);
        tangle.start(n);
        if (text.length == 2) {
            return NONE;
        }
        int p = 2;
        for (int pairs = 1; pairs <= MOST_COMPARERS; pairs++) {
            int a = text.digitAt(p);
            if (!draft.isWire(a)) {
                return p;
            }
            int b = text.digitAt(p + 1);
            if (!draft.isWire(b) || a == b) {
                return p + 1;
            }
            tangle.untangle(a, b, draft);
            p += 2;
            if (p == text.length) {
                return NONE;
            }
            if (text.signAt(p) != ',' || pairs == MOST_COMPARERS) {
                return p;
            }
            p++;
        }
        return p;
    }

    /** Reads the text into the values of n wires: where it can't go on, or NONE. */
    private int readValues(int n) {
        int p = 0;
        for (int w = 0; w < n; w++) {
            if (w > 0) {
                if (text.signAt(p) != ',') {
                    return p;
                }
                p++;
            }
            if (text.digitAt(p) < 0) {
                return p;
            }
            int value = 0;
            for (int d = 0; d < MOST_DIGITS && text.digitAt(p) >= 0; d++) {
                value = 10 * value + text.digitAt(p);
                p++;
            }
            values[w] = value;
        }
        return p == text.length ? NONE : p;
    }

    /** Puts the lesser value on i: 1 if it was on j, else 0. */
    private int orderValues(int i, int j) {
        if (values[i] <= values[j]) {
            return 0;
        }
        int greater = values[i];
        values[i] = values[j];
        values[j] = greater;
        return 1;
    }

    // ---- making nets

    private static int nextState(int state) {
        return state * 1103515245 + 12345;
    }

    private static void makeBubbles(Net made) {
        int n = made.wires;
        for (int r = 0; r <= n - 2; r++) {
            for (int w = 0; w <= n - 2 - r; w++) {
                made.append(w, w + 1);
            }
        }
    }

    private static void makeInsertions(Net made) {
        for (int r = 1; r < made.wires; r++) {
            for (int w = r - 1; w >= 0; w--) {
                made.append(w, w + 1);
            }
        }
    }

    private static void makeBricks(Net made) {
        for (int r = 0; r < made.wires; r++) {
            for (int w = r % 2; w < made.wires - 1; w += 2) {
                made.append(w, w + 1);
            }
        }
    }

    private static void makeMergeExchange(Net made) {
        int top = 1;
        while (top < made.wires && top < MOST_WIRES) {
            top *= 2;
        }
        for (int p = top / 2; p > 0; p /= 2) {
            appendStride(made, p, 0, p);
            for (int q = top / 2; q > p; q /= 2) {
                appendStride(made, p, p, q - p);
            }
        }
    }

    private static void appendStride(Net made, int p, int r, int d) {
        for (int w = 0; w < made.wires - d; w++) {
            if ((w & p) == r) {
                made.append(w, w + d);
            }
        }
    }

    /** Puts the comparers of one layer behind the draft, by their lower wires. */
    private void appendLayer(Net laid, int layer) {
        for (int w = 0; w < laid.wires; w++) {
            for (int k = 0; k < laid.size; k++) {
                if (layers.of[k] == layer && laid.low[k] == w) {
                    draft.append(w, laid.high[k]);
                }
            }
        }
    }

    /** Notes in places which line each wire has; what stands at the cut wire w is never read. */
    private void nameLines(int n, int w) {
        for (int v = 0; v < n; v++) {
            places[v] = v <= w ? v : v - 1;
        }
    }

    /** Takes one comparer of a net whose wire is cut out: where that wire's thing is then. */
    private int cutAt(int i, int j, int here, boolean great) {
        if (i != here && j != here) {
            tangle.untangle(places[i], places[j], draft);
            return here;
        }
        if (here != (great ? i : j)) {
            return here;
        }
        int there = great ? j : i;
        places[here] = places[there];
        return there;
    }

    // ---- trying nets on all patterns

    /** Finds the patterns that are wrong, if comparer out is left out (NONE: none is). */
    private void judge(Net asked, int out) {
        trial.start(asked.wires);
        if (out < 0) {
            trial.runPart(asked, 0, asked.size);
        } else {
            trial.runPart(asked, 0, out);
            trial.runPart(asked, out + 1, asked.size);
        }
        trial.findUnsorted(found);
    }

    private boolean isSorting(Net asked, int out) {
        judge(asked, out);
        return found.isEmpty();
    }

    private void findResults(Net asked) {
        trial.start(asked.wires);
        trial.runPart(asked, 0, asked.size);
        trial.listResults(results);
    }

    private void takeImage(Net asked) {
        findResults(asked);
        found.clear();
        for (int p = 0; p < 1 << asked.wires; p++) {
            found.put(results[p]);
        }
    }

    /** The image of a net of at most 6 wires, a bit for each pattern. */
    private long smallImage(Net asked) {
        takeImage(asked);
        return found.words[0];
    }

    /**
     * Finds by ranks the wires, as bits, on which they can leave. Things from rank r on taken for
     * ones, and those above it taken for ones, differ where rank r is, when they come and when
     * they leave.
     */
    private void findReach(Net asked) {
        int n = asked.wires;
        findResults(asked);
        for (int r = 0; r < n; r++) {
            values[r] = 0;
        }
        for (int p = 1; p < 1 << n; p++) {
            int r = n - Integer.bitCount(p);
            for (int w = 0; w < n; w++) {
                if (((p >> w) & 1) == 1) {
                    values[r] |= results[p] ^ results[p ^ (1 << w)];
                }
            }
        }
    }

    /** Whether the order in values does not leave sorted: one of its patterns is wrong then. */
    private boolean leavesUnsorted(int n) {
        for (int w = 0; w < n; w++) {
            places[values[w]] = w;
        }
        int pattern = 0;
        for (int r = n - 1; r > 0; r--) {
            pattern |= 1 << places[r];
            if (found.holds(pattern)) {
                return true;
            }
        }
        return false;
    }

    /** Makes of values the order that comes next; false behind the last one. */
    private boolean nextOrder(int n) {
        int at = n - 2;
        while (at >= 0 && values[at] > values[at + 1]) {
            at--;
        }
        if (at < 0) {
            return false;
        }
        int with = n - 1;
        while (with > at + 1 && values[with] < values[at]) {
            with--;
        }
        exchangeValues(at, with);
        for (int low = at + 1, high = n - 1; low < high; low++, high--) {
            exchangeValues(low, high);
        }
        return true;
    }

    private void exchangeValues(int a, int b) {
        int kept = values[a];
        values[a] = values[b];
        values[b] = kept;
    }

    /** Finds by patterns the comparers without which each is wrong: all of these. */
    private long findNotices(Net asked) {
        int patterns = 1 << asked.wires;
        for (int p = 0; p < patterns; p++) {
            notices[p] = 0;
        }
        long all = 0;
        for (int k = 0; k < asked.size; k++) {
            judge(asked, k);
            for (int p = 0; p < patterns; p++) {
                if (found.holds(p)) {
                    notices[p] |= 1L << k;
                    all |= 1L << k;
                }
            }
        }
        return all;
    }

    /** Whether just so many comparers more can sort the set; they stand in the path then. */
    private static boolean isFinishedBy(long set, int n, int used, int many, int[] path) {
        if (used >= many || used >= path.length) {
            return Long.bitCount(set) == n + 1;
        }
        for (int i = 0; i < n - 1; i++) {
            for (int j = i + 1; j < n; j++) {
                path[used] = code(i, j);
                if (isFinishedBy(Sets.compared(set, i, j), n, used + 1, many, path)) {
                    return true;
                }
            }
        }
        return false;
    }

    /** Wires and comparers in their order. */
    private static final class Net {
        int wires = FIRST_WIRES;
        int size = 0;
        final int[] low = new int[MOST_COMPARERS];
        final int[] high = new int[MOST_COMPARERS];

        boolean isWire(int w) {
            return w >= 0 && w < wires;
        }

        void clear(int n) {
            wires = n;
            size = 0;
        }

        /** False, if there is no room for it. */
        boolean append(int i, int j) {
            if (size >= MOST_COMPARERS) {
                return false;
            }
            low[size] = i;
            high[size] = j;
            size++;
            return true;
        }

        void remove(int k) {
            size--;
            for (int c = k; c < size; c++) {
                low[c] = low[c + 1];
                high[c] = high[c + 1];
            }
        }

        void take(Net other) {
            wires = other.wires;
            size = other.size;
            for (int k = 0; k < size; k++) {
                low[k] = other.low[k];
                high[k] = other.high[k];
            }
        }

        /** Whether the two have no wire in common. */
        boolean exchangeWithNext(int k) {
            exchangeAt(k, k + 1);
            return low[k] != low[k + 1] && low[k] != high[k + 1]
                && high[k] != low[k + 1] && high[k] != high[k + 1];
        }

        private void exchangeAt(int a, int b) {
            int i = low[a];
            int j = high[a];
            low[a] = low[b];
            high[a] = high[b];
            low[b] = i;
            high[b] = j;
        }

        void reverse() {
            for (int a = 0, b = size - 1; a < b; a++, b--) {
                exchangeAt(a, b);
            }
        }

        void reflect() {
            for (int k = 0; k < size; k++) {
                int i = low[k];
                low[k] = wires - 1 - high[k];
                high[k] = wires - 1 - i;
            }
        }

        /** At how many places a net of as many comparers has other ones. */
        int differences(Net other) {
            int many = 0;
            for (int k = 0; k < size && k < other.size; k++) {
                if (low[k] != other.low[k] || high[k] != other.high[k]) {
                    many++;
                }
            }
            return many;
        }
    }

    /** Where each wire of crossed pairs is, when they become comparers. */
    private static final class Tangle {
        private final int[] at = new int[MOST_WIRES];

        void start(int n) {
            for (int w = 0; w < n && w < MOST_WIRES; w++) {
                at[w] = w;
            }
        }

        int placeOf(int w) {
            return at[w];
        }

        void untangle(int a, int b, Net into) {
            int x = at[a];
            int y = at[b];
            if (x < y) {
                into.append(x, y);
            } else {
                into.append(y, x);
                at[a] = y;
                at[b] = x;
            }
        }
    }

    /** The signs that wait to be read. */
    private static final class Text {
        private final char[] signs = new char[MOST_SIGNS];
        int length = 0;

        /** Puts the four bytes of v behind, the highest first; false, if there is no room. */
        boolean append(int v) {
            if (length + 4 > MOST_SIGNS) {
                return false;
            }
            for (int shift = 24; shift >= 0; shift -= 8) {
                signs[length] = (char) ((v >>> shift) & 255);
                length++;
            }
            return true;
        }

        /** The sign there, NONE where there is none. */
        int signAt(int p) {
            return p >= 0 && p < length ? signs[p] : NONE;
        }

        /** What the digit there stands for, NONE where there is none. */
        int digitAt(int p) {
            int sign = signAt(p);
            return sign >= '0' && sign <= '9' ? sign - '0' : NONE;
        }
    }

    /** The numbers that were told last. */
    private static final class Numbers {
        private static final int MOST = 64;
        final long[] numbers = new long[MOST];
        int size = 0;

        void clear() {
            size = 0;
        }

        void append(long number) {
            if (size < MOST) {
                numbers[size] = number;
                size++;
            }
        }
    }

    /** The layers of a net's comparers. */
    private static final class Layers {
        final int[] of = new int[MOST_COMPARERS];
        int deepest = 0;
        private final int[] sizes = new int[MOST_COMPARERS + 1];
        private final int[] last = new int[MOST_WIRES];

        void read(Net net) {
            deepest = 0;
            for (int w = 0; w < MOST_WIRES; w++) {
                last[w] = 0;
            }
            for (int layer = 0; layer <= MOST_COMPARERS; layer++) {
                sizes[layer] = 0;
            }
            for (int k = 0; k < net.size; k++) {
                int layer = Math.max(last[net.low[k]], last[net.high[k]]) + 1;
                last[net.low[k]] = layer;
                last[net.high[k]] = layer;
                of[k] = layer;
                sizes[layer]++;
                deepest = Math.max(deepest, layer);
            }
        }

        int sizeOf(int layer) {
            return sizes[layer];
        }
    }

    /** A set of patterns, a bit for each. */
    private static final class PatternSet {
        private static final int WORDS = MOST_PATTERNS / 64;
        final long[] words = new long[WORDS];

        void clear() {
            for (int b = 0; b < WORDS; b++) {
                words[b] = 0;
            }
        }

        void put(int p) {
            words[(p >> 6) & (WORDS - 1)] |= 1L << (p & 63);
        }

        boolean holds(int p) {
            return ((words[(p >> 6) & (WORDS - 1)] >>> (p & 63)) & 1) == 1;
        }

        int size() {
            int many = 0;
            for (int b = 0; b < WORDS; b++) {
                many += Long.bitCount(words[b]);
            }
            return many;
        }

        boolean isEmpty() {
            return first() == NONE;
        }

        /** NONE, if it is empty. */
        int first() {
            for (int b = 0; b < WORDS; b++) {
                if (words[b] != 0) {
                    return 64 * b + Long.bitCount((words[b] & -words[b]) - 1);
                }
            }
            return NONE;
        }
    }

    /** All patterns on their way through a net at once: by wires, a bit for each pattern. */
    private static final class Trial {
        private static final int WORDS = PatternSet.WORDS;
        private final long[] words = new long[MOST_WIRES * WORDS];
        private int wires = FEWEST_WIRES;
        private int blocks = 1;

        void start(int n) {
            wires = n;
            blocks = n <= 6 ? 1 : 1 << (n - 6);
            long mask = n >= 6 ? -1L : (1L << (1 << n)) - 1;
            for (int w = 0; w < n; w++) {
                for (int b = 0; b < blocks; b++) {
                    words[WORDS * w + b] = column(w, b) & mask;
                }
            }
        }

        private static long column(int w, int b) {
            if (w < COLUMNS.length) {
                return COLUMNS[w];
            }
            return ((b >> (w - COLUMNS.length)) & 1) == 1 ? -1L : 0;
        }

        void take(Trial other) {
            wires = other.wires;
            blocks = other.blocks;
            for (int k = 0; k < words.length; k++) {
                words[k] = other.words[k];
            }
        }

        /** Lets the patterns through the comparers from one number on, below another one. */
        void runPart(Net net, int from, int below) {
            for (int k = from; k < below; k++) {
                compare(net.low[k], net.high[k]);
            }
        }

        /** The lesser one comes to wire lesser, whichever of the two is the lower wire. */
        void compare(int lesser, int greater) {
            for (int b = 0; b < blocks; b++) {
                long one = words[WORDS * lesser + b];
                long other = words[WORDS * greater + b];
                words[WORDS * lesser + b] = one & other;
                words[WORDS * greater + b] = one | other;
            }
        }

        void exchange(int i, int j) {
            for (int b = 0; b < blocks; b++) {
                long kept = words[WORDS * i + b];
                words[WORDS * i + b] = words[WORDS * j + b];
                words[WORDS * j + b] = kept;
            }
        }

        /** Whether some pattern has a 1 on i and a 0 on j. */
        boolean isBusy(int i, int j) {
            long busy = 0;
            for (int b = 0; b < blocks; b++) {
                busy |= words[WORDS * i + b] & ~words[WORDS * j + b];
            }
            return busy != 0;
        }

        /** Finds the patterns that have come to be unsorted ones. */
        void findUnsorted(PatternSet into) {
            into.clear();
            for (int w = 0; w < wires - 1; w++) {
                for (int b = 0; b < blocks; b++) {
                    into.words[b] |= words[WORDS * w + b] & ~words[WORDS * (w + 1) + b];
                }
            }
        }

        /** Finds the patterns that have come to be others than in another trial of as many wires. */
        void findUnlike(Trial other, PatternSet into) {
            into.clear();
            for (int w = 0; w < wires; w++) {
                for (int b = 0; b < blocks; b++) {
                    into.words[b] |= words[WORDS * w + b] ^ other.words[WORDS * w + b];
                }
            }
        }

        void listResults(int[] into) {
            for (int p = 0; p < 1 << wires && p < into.length; p++) {
                int result = 0;
                for (int w = 0; w < wires; w++) {
                    long bit = (words[WORDS * w + (p >> 6)] >>> (p & 63)) & 1;
                    result |= (int) bit << w;
                }
                into[p] = result;
            }
        }
    }

    /** Sets of patterns of at most 6 wires, a bit of a long for each pattern. */
    private static final class Sets {
        static long all(int n) {
            return n >= MOST_WIRES_WITHIN ? -1L : (1L << (1 << n)) - 1;
        }

        /** What a set becomes by a comparer: its patterns with 1 on i and 0 on j move up. */
        static long compared(long set, int i, int j) {
            long moving = set & COLUMNS[i] & ~COLUMNS[j];
            return (set ^ moving) | (moving << ((1 << j) - (1 << i)));
        }

        /** The set with wires i and j exchanged, i not above j. */
        static long exchanged(long set, int i, int j) {
            if (i == j) {
                return set;
            }
            int step = (1 << j) - (1 << i);
            long lower = COLUMNS[i] & ~COLUMNS[j];
            long upper = COLUMNS[j] & ~COLUMNS[i];
            return (set & ~(lower | upper)) | ((set & lower) << step) | ((set & upper) >>> step);
        }

        /**
         * In how many ways the wires from fixed on can be turned so that the set is a part of the
         * goal; the search stops when there are enough.
         */
        private static int waysWithin(long set, long goal, int n, int fixed, int enough) {
            if (fixed >= n - 1 || fixed >= MOST_WIRES_WITHIN - 1) {
                return (set & ~goal) == 0 ? 1 : 0;
            }
            int ways = 0;
            for (int w = fixed; w < n && ways < enough; w++) {
                long turned = exchanged(set, fixed, w);
                if (mayFit(turned, goal, COLUMNS[fixed])) {
                    ways += waysWithin(turned, goal, n, fixed + 1, enough - ways);
                }
            }
            return ways;
        }

        /** No part of the goal has more patterns than it with a 1, or with a 0, on one wire. */
        private static boolean mayFit(long set, long goal, long column) {
            return Long.bitCount(set & column) <= Long.bitCount(goal & column)
                && Long.bitCount(set & ~column) <= Long.bitCount(goal & ~column);
        }

        static boolean isWithin(long set, long goal, int n) {
            return Long.bitCount(set) <= Long.bitCount(goal) && waysWithin(set, goal, n, 0, 1) > 0;
        }
    }

    /** Steps from the set of all patterns to that of the sorted ones. */
    private static final class Search {
        private static final int MOST_PAIRS = 10;
        private static final int MOST_MOVES = 26;
        private static final int MOST_KEPT = 64;
        private static final int MOST_STEPS = 16;
        private final int[] low = new int[MOST_PAIRS];
        private final int[] high = new int[MOST_PAIRS];
        private final int[] moves = new int[MOST_MOVES];
        private final long[] kept = new long[MOST_KEPT];
        private final long[] fresh = new long[MOST_KEPT];
        private int wires = 1;
        private int pairs = 0;
        private int moveSize = 0;
        private int keptSize = 0;
        private int freshSize = 0;

        /** How many steps it takes; tells behind each how many sets are kept. */
        int tellSteps(int n, boolean inLayers, Numbers told) {
            wires = n;
            listPairs();
            listMoves(inLayers);
            kept[0] = Sets.all(n);
            keptSize = 1;
            told.clear();
            int steps = 0;
            while (!isOver() && steps < MOST_STEPS) {
                makeStep();
                told.append(keptSize);
                steps++;
            }
            return steps;
        }

        private void listPairs() {
            pairs = 0;
            for (int i = 0; i < wires - 1; i++) {
                for (int j = i + 1; j < wires && pairs < MOST_PAIRS; j++) {
                    low[pairs] = i;
                    high[pairs] = j;
                    pairs++;
                }
            }
        }

        /** Moves are sets of pairs, as bits: of one pair each, or in layers. */
        private void listMoves(boolean inLayers) {
            moveSize = 0;
            for (int move = 1; move < 1 << pairs && moveSize < MOST_MOVES; move++) {
                if (Integer.bitCount(move) == 1 || (inLayers && isLayer(move))) {
                    moves[moveSize] = move;
                    moveSize++;
                }
            }
        }

        private boolean isLayer(int move) {
            int used = 0;
            for (int k = 0; k < pairs; k++) {
                if (((move >> k) & 1) == 1) {
                    int both = (1 << low[k]) | (1 << high[k]);
                    if ((used & both) != 0) {
                        return false;
                    }
                    used |= both;
                }
            }
            return true;
        }

        private boolean isOver() {
            for (int k = 0; k < keptSize; k++) {
                if (Long.bitCount(kept[k]) == wires + 1) {
                    return true;
                }
            }
            return false;
        }

        private void makeStep() {
            freshSize = 0;
            for (int k = 0; k < keptSize; k++) {
                for (int m = 0; m < moveSize; m++) {
                    consider(moved(kept[k], moves[m]));
                }
            }
            for (int k = 0; k < freshSize; k++) {
                kept[k] = fresh[k];
            }
            keptSize = freshSize;
        }

        private long moved(long set, int move) {
            long now = set;
            for (int k = 0; k < pairs; k++) {
                if (((move >> k) & 1) == 1) {
                    now = Sets.compared(now, low[k], high[k]);
                }
            }
            return now;
        }

        /** Keeps the set, unless one that is kept in this step does as well. */
        private void consider(long set) {
            for (int k = 0; k < freshSize; k++) {
                if (Sets.isWithin(fresh[k], set, wires)) {
                    return;
                }
            }
            int left = 0;
            for (int k = 0; k < freshSize; k++) {
                if (!Sets.isWithin(set, fresh[k], wires)) {
                    fresh[left] = fresh[k];
                    left++;
                }
            }
            freshSize = left;
            if (freshSize < MOST_KEPT) {
                fresh[freshSize] = set;
                freshSize++;
            }
        }
    }
}
