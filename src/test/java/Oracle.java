import java.util.ArrayList;
import java.util.Arrays;
import java.util.List;
import java.util.NoSuchElementException;
import java.util.Set;
import java.util.TreeSet;

/** The document done once more in the slowest and plainest way, to compare the class with. */
final class Oracle {
    private static final int[] HOW_NORMAL = {-1, 0};

    private final int[] wires = {4, 4, 4, 4};
    private final List<List<int[]>> nets = new ArrayList<>();
    private String text = "";
    private List<Long> told = new ArrayList<>();

    Oracle() {
        for (int s = 0; s < 4; s++) {
            nets.add(new ArrayList<>());
        }
    }

    // ---- helpers

    private boolean noNet(int s) {
        return s < 0 || s > 3;
    }

    private void tell(long... numbers) {
        told = new ArrayList<>();
        for (long number : numbers) {
            told.add(number);
        }
    }

    private static boolean sorted(int[] things) {
        for (int a = 0; a < things.length; a++) {
            for (int b = a + 1; b < things.length; b++) {
                if (things[a] > things[b]) {
                    return false;
                }
            }
        }
        return true;
    }

    private static int[] bits(int n, int pattern) {
        int[] things = new int[n];
        for (int w = 0; w < n; w++) {
            things[w] = pattern / (int) Math.pow(2, w) % 2;
        }
        return things;
    }

    private static int number(int[] things) {
        int pattern = 0;
        for (int w = 0; w < things.length; w++) {
            pattern += things[w] * (int) Math.pow(2, w);
        }
        return pattern;
    }

    /** Lets things through; broken[0] is the comparer that is broken in the way broken[1]. */
    private static List<Integer> pass(List<int[]> net, int[] things, int[] broken) {
        List<Integer> busy = new ArrayList<>();
        for (int k = 0; k < net.size(); k++) {
            int i = net.get(k)[0];
            int j = net.get(k)[1];
            int onI = things[i];
            int onJ = things[j];
            if (onI > onJ) {
                busy.add(k);
            }
            int how = k == broken[0] ? broken[1] : 3;
            if (how == 1) {
                things[i] = onJ;
                things[j] = onI;
            } else if (how == 2) {
                things[i] = Math.max(onI, onJ);
                things[j] = Math.min(onI, onJ);
            } else if (how == 3) {
                things[i] = Math.min(onI, onJ);
                things[j] = Math.max(onI, onJ);
            }
        }
        return busy;
    }

    private static List<Integer> wrongs(List<int[]> net, int n, int[] broken) {
        List<Integer> wrong = new ArrayList<>();
        for (int p = 0; p < 1 << n; p++) {
            int[] things = bits(n, p);
            pass(net, things, broken);
            if (!sorted(things)) {
                wrong.add(p);
            }
        }
        return wrong;
    }

    private List<Integer> wrongs(int s) {
        return wrongs(nets.get(s), wires[s], HOW_NORMAL);
    }

    private static List<int[]> without(List<int[]> net, int k) {
        List<int[]> out = new ArrayList<>(net);
        out.remove(k);
        return out;
    }

    private static int result(List<int[]> net, int n, int pattern) {
        int[] things = bits(n, pattern);
        pass(net, things, HOW_NORMAL);
        return number(things);
    }

    private static Set<Integer> imageOf(List<int[]> net, int n) {
        Set<Integer> all = new TreeSet<>();
        for (int p = 0; p < 1 << n; p++) {
            all.add(result(net, n, p));
        }
        return all;
    }

    private static int firstOf(List<Integer> all) {
        return all.isEmpty() ? -1 : all.get(0);
    }

    private static List<int[]> permutations(int n) {
        List<int[]> all = new ArrayList<>();
        permute(new int[n], 0, all);
        return all;
    }

    private static void permute(int[] part, int used, List<int[]> all) {
        if (used == part.length) {
            all.add(part.clone());
            return;
        }
        for (int v = 0; v < part.length; v++) {
            boolean free = true;
            for (int w = 0; w < used; w++) {
                free &= part[w] != v;
            }
            if (free) {
                part[used] = v;
                permute(part, used + 1, all);
            }
        }
    }

    private static int[] layersOf(List<int[]> net) {
        int[] layers = new int[net.size()];
        for (int k = 0; k < layers.length; k++) {
            int last = 0;
            for (int c = 0; c < k; c++) {
                if (meet(net.get(k), net.get(c))) {
                    last = Math.max(last, layers[c]);
                }
            }
            layers[k] = last + 1;
        }
        return layers;
    }

    private static boolean meet(int[] a, int[] b) {
        return a[0] == b[0] || a[0] == b[1] || a[1] == b[0] || a[1] == b[1];
    }

    private static int[] untangle(List<int[]> pairs, int n, List<int[]> into) {
        int[] at = new int[n];
        for (int w = 0; w < n; w++) {
            at[w] = w;
        }
        for (int[] pair : pairs) {
            int x = at[pair[0]];
            int y = at[pair[1]];
            if (x < y) {
                into.add(new int[] {x, y});
            } else {
                into.add(new int[] {y, x});
                at[pair[0]] = y;
                at[pair[1]] = x;
            }
        }
        return at;
    }

    private static long asBits(List<Integer> all) {
        long bits = 0;
        for (int k : all) {
            bits |= 1L << k;
        }
        return bits;
    }

    private int tellBits(Set<Integer> all) {
        tell(all.size());
        return (int) asBits(new ArrayList<>(all));
    }

    // ---- nets that are told, made

    int sign(int v) {
        if (text.length() + 4 > 200) {
            return -1;
        }
        text += (char) (v >>> 24);
        text += (char) (v >>> 16 & 255);
        text += (char) (v >>> 8 & 255);
        text += (char) (v & 255);
        return text.length();
    }

    boolean end(int n) {
        if (n < 0 || n > text.length()) {
            return false;
        }
        text = text.substring(0, n);
        return true;
    }

    /** Whether some net's text begins with this, as an automaton; whole: it is one itself. */
    private static boolean netBegins(String part, boolean whole) {
        if (!part.matches("([2-8](:([0-9]{2},)*([0-9]{0,2}))?)?")) {
            return false;
        }
        if (part.length() >= 2) {
            int n = part.charAt(0) - '0';
            String[] pairs = part.substring(2).split(",", -1);
            if (pairs.length > 60) {
                return false;
            }
            for (String pair : pairs) {
                for (int p = 0; p < pair.length(); p++) {
                    if (pair.charAt(p) - '0' >= n) {
                        return false;
                    }
                }
                if (pair.length() == 2 && pair.charAt(0) == pair.charAt(1)) {
                    return false;
                }
            }
        }
        return !whole || part.matches("[2-8]:([0-9]{2}(,[0-9]{2})*)?");
    }

    int net(int s) {
        String all = text;
        text = "";
        for (int p = 0; p < all.length(); p++) {
            if (!netBegins(all.substring(0, p + 1), false)) {
                return -21 - p;
            }
        }
        if (!netBegins(all, true)) {
            return -21 - all.length();
        }
        if (noNet(s)) {
            return -1;
        }
        List<int[]> pairs = new ArrayList<>();
        for (int p = 2; p < all.length(); p += 3) {
            pairs.add(new int[] {all.charAt(p) - '0', all.charAt(p + 1) - '0'});
        }
        wires[s] = all.charAt(0) - '0';
        nets.get(s).clear();
        int[] at = untangle(pairs, wires[s], nets.get(s));
        tell(Arrays.stream(at).asLongStream().toArray());
        return nets.get(s).size();
    }

    int makes(int s, int n, int way) {
        if (noNet(s) || n < 2 || n > 8 || way < 0 || way > 4) {
            return -1;
        }
        List<int[]> made = new ArrayList<>();
        for (int r = 0; way == 1 && r <= n - 2; r++) {
            for (int w = 0; w <= n - 2 - r; w++) {
                made.add(new int[] {w, w + 1});
            }
        }
        for (int r = 1; way == 2 && r <= n - 1; r++) {
            for (int w = r - 1; w >= 0; w--) {
                made.add(new int[] {w, w + 1});
            }
        }
        for (int r = 0; way == 3 && r <= n - 1; r++) {
            for (int w = r % 2; w < n - 1; w += 2) {
                made.add(new int[] {w, w + 1});
            }
        }
        if (way == 4) {
            mergeExchange(n, made);
        }
        wires[s] = n;
        nets.set(s, made);
        return made.size();
    }

    private static void mergeExchange(int n, List<int[]> made) {
        int t = 1;
        while (t < n) {
            t = 2 * t;
        }
        for (int p = t / 2; p > 0; p = p / 2) {
            int q = t / 2;
            int r = 0;
            int d = p;
            while (true) {
                for (int w = 0; w <= n - d - 1; w++) {
                    if ((w & p) == r) {
                        made.add(new int[] {w, w + d});
                    }
                }
                if (q == p) {
                    break;
                }
                d = q - p;
                q = q / 2;
                r = p;
            }
        }
    }

    int draws(int s, int n, int k, int seed) {
        if (noNet(s) || n < 2 || n > 8 || k < 0 || k > 60) {
            return -1;
        }
        int[] state = {seed};
        List<int[]> drawn = new ArrayList<>();
        for (int c = 0; c < k; c++) {
            int a = draw(state, n);
            int b = draw(state, n - 1);
            b = b >= a ? b + 1 : b;
            drawn.add(new int[] {Math.min(a, b), Math.max(a, b)});
        }
        wires[s] = n;
        nets.set(s, drawn);
        return wrongs(s).size();
    }

    private static int draw(int[] state, int m) {
        state[0] = state[0] * 1103515245 + 12345;
        return (int) ((state[0] & 0xFFFFFFFFL) / 65536 % m);
    }

    int adds(int s, int i, int j) {
        if (noNet(s) || i < 0 || j >= wires[s] || i >= j || nets.get(s).size() == 60) {
            return -1;
        }
        nets.get(s).add(new int[] {i, j});
        return nets.get(s).size();
    }

    private boolean noComparer(int s, int k) {
        return noNet(s) || k < 0 || k >= nets.get(s).size();
    }

    int drops(int s, int k) {
        if (noComparer(s, k)) {
            return -1;
        }
        nets.get(s).remove(k);
        return nets.get(s).size();
    }

    int swaps(int s, int k) {
        if (noComparer(s, k) || noComparer(s, k + 1)) {
            return -1;
        }
        List<int[]> net = nets.get(s);
        int[] first = net.get(k);
        net.set(k, net.get(k + 1));
        net.set(k + 1, first);
        return meet(net.get(k), first) ? 0 : 1;
    }

    int copies(int s, int t) {
        if (noNet(s) || noNet(t)) {
            return -1;
        }
        wires[t] = wires[s];
        nets.set(t, new ArrayList<>(nets.get(s)));
        return nets.get(t).size();
    }

    int joins(int s, int t) {
        if (noNet(s) || noNet(t)) {
            return -1;
        }
        if (wires[s] != wires[t]) {
            return -2;
        }
        if (nets.get(s).size() + nets.get(t).size() > 60) {
            return -3;
        }
        nets.get(s).addAll(new ArrayList<>(nets.get(t)));
        return nets.get(s).size();
    }

    int flips(int s) {
        if (noNet(s)) {
            return -1;
        }
        List<int[]> turned = new ArrayList<>();
        for (int[] comparer : nets.get(s)) {
            turned.add(0, comparer);
        }
        nets.set(s, turned);
        return turned.size();
    }

    int mirrors(int s) {
        if (noNet(s)) {
            return -1;
        }
        List<int[]> turned = new ArrayList<>();
        for (int[] comparer : nets.get(s)) {
            turned.add(new int[] {wires[s] - 1 - comparer[1], wires[s] - 1 - comparer[0]});
        }
        nets.set(s, turned);
        return turned.size();
    }

    int lays(int s) {
        if (noNet(s)) {
            return -1;
        }
        List<int[]> net = nets.get(s);
        int[] layers = layersOf(net);
        List<Integer> order = new ArrayList<>();
        for (int k = 0; k < layers.length; k++) {
            order.add(k);
        }
        order.sort((a, b) -> layers[a] != layers[b] ? layers[a] - layers[b] : net.get(a)[0] - net.get(b)[0]);
        List<int[]> laid = new ArrayList<>();
        int moved = 0;
        for (int k = 0; k < layers.length; k++) {
            laid.add(net.get(order.get(k)));
            moved += Arrays.equals(laid.get(k), net.get(k)) ? 0 : 1;
        }
        nets.set(s, laid);
        return moved;
    }

    int cuts(int s, int w, boolean great, int t) {
        if (noNet(s) || noNet(t) || w < 0 || w >= wires[s]) {
            return -1;
        }
        if (wires[s] == 2) {
            return -2;
        }
        List<Integer> lineOn = new ArrayList<>();
        for (int line = 0; line < wires[s] - 1; line++) {
            lineOn.add(line);
        }
        int here = w;
        lineOn.add(w, 99);
        List<int[]> pairs = new ArrayList<>();
        for (int[] comparer : nets.get(s)) {
            int i = comparer[0];
            int j = comparer[1];
            if (lineOn.get(i) != 99 && lineOn.get(j) != 99) {
                pairs.add(new int[] {lineOn.get(i), lineOn.get(j)});
            } else if (lineOn.get(great ? i : j) == 99) {
                int other = great ? j : i;
                lineOn.set(here, lineOn.get(other));
                lineOn.set(other, 99);
                here = other;
            }
        }
        List<int[]> cut = new ArrayList<>();
        untangle(pairs, wires[s] - 1, cut);
        wires[t] = wires[s] - 1;
        nets.set(t, cut);
        tell(here);
        return cut.size();
    }

    // ---- what they are

    int comparer(int s, int k) {
        if (noComparer(s, k)) {
            return -1;
        }
        tell(layersOf(nets.get(s))[k]);
        return 10 * nets.get(s).get(k)[0] + nets.get(s).get(k)[1];
    }

    int depth(int s) {
        if (noNet(s)) {
            return -1;
        }
        int deepest = 0;
        for (int layer : layersOf(nets.get(s))) {
            deepest = Math.max(deepest, layer);
        }
        long[] many = new long[deepest];
        for (int layer : layersOf(nets.get(s))) {
            many[layer - 1]++;
        }
        tell(many);
        return deepest;
    }

    private boolean noPattern(int s, int pattern) {
        return noNet(s) || pattern < 0 || pattern >= Math.pow(2, wires[s]);
    }

    int runs(int s, int pattern) {
        if (noPattern(s, pattern)) {
            return -1;
        }
        int[] things = bits(wires[s], pattern);
        tell(asBits(pass(nets.get(s), things, HOW_NORMAL)));
        return number(things);
    }

    int tells(int s) {
        String all = text;
        text = "";
        if (noNet(s)) {
            return -1;
        }
        int n = wires[s];
        for (int p = 0; p < all.length(); p++) {
            if (!valuesBegin(all.substring(0, p + 1), n)) {
                return -21 - p;
            }
        }
        if (!all.matches("[0-9]{1,4}(,[0-9]{1,4}){" + (n - 1) + "}")) {
            return -21 - all.length();
        }
        String[] numbers = all.split(",");
        int[] things = new int[n];
        for (int w = 0; w < n; w++) {
            things[w] = Integer.parseInt(numbers[w]);
        }
        int busy = pass(nets.get(s), things, HOW_NORMAL).size();
        tell(Arrays.stream(things).asLongStream().toArray());
        return busy;
    }

    private static boolean valuesBegin(String part, int n) {
        return part.matches("([0-9]{1,4},){0," + (n - 1) + "}[0-9]{0,4}");
    }

    int sorts(int s) {
        if (noNet(s)) {
            return -1;
        }
        List<Integer> wrong = wrongs(s);
        tell(wrong.size(), firstOf(wrong));
        return wrong.isEmpty() ? 1 : 0;
    }

    int image(int s) {
        if (noNet(s)) {
            return -1;
        }
        Set<Integer> all = imageOf(nets.get(s), wires[s]);
        tell(all.stream().filter(p -> sorted(bits(wires[s], p))).count());
        return all.size();
    }

    int comes(int s, int pattern) {
        if (noPattern(s, pattern)) {
            return -1;
        }
        List<Integer> from = new ArrayList<>();
        for (int p = 0; p < 1 << wires[s]; p++) {
            if (result(nets.get(s), wires[s], p) == pattern) {
                from.add(p);
            }
        }
        tell(firstOf(from));
        return from.size();
    }

    int ranks(int s, int r) {
        if (noNet(s) || r < 0 || r >= wires[s]) {
            return -1;
        }
        Set<Integer> where = new TreeSet<>();
        for (int[] order : permutations(wires[s])) {
            pass(nets.get(s), order, HOW_NORMAL);
            for (int w = 0; w < order.length; w++) {
                if (order[w] == r) {
                    where.add(w);
                }
            }
        }
        return tellBits(where);
    }

    int leaves(int s, int w) {
        if (noNet(s) || w < 0 || w >= wires[s]) {
            return -1;
        }
        Set<Integer> what = new TreeSet<>();
        for (int[] order : permutations(wires[s])) {
            pass(nets.get(s), order, HOW_NORMAL);
            what.add(order[w]);
        }
        return tellBits(what);
    }

    int orders(int s) {
        if (noNet(s)) {
            return -1;
        }
        if (wires[s] == 8) {
            return -2;
        }
        int many = 0;
        tell();
        for (int[] order : permutations(wires[s])) {
            int[] things = order.clone();
            pass(nets.get(s), things, HOW_NORMAL);
            if (!sorted(things)) {
                if (many == 0) {
                    tell(Arrays.stream(order).asLongStream().toArray());
                }
                many++;
            }
        }
        return many;
    }

    int merges(int s, int a) {
        if (noNet(s) || a < 1 || a > wires[s] - 1) {
            return -1;
        }
        int all = 0;
        int bad = 0;
        for (int p = 0; p < 1 << wires[s]; p++) {
            int[] things = bits(wires[s], p);
            if (sorted(Arrays.copyOf(things, a)) && sorted(Arrays.copyOfRange(things, a, wires[s]))) {
                all++;
                pass(nets.get(s), things, HOW_NORMAL);
                bad += sorted(things) ? 0 : 1;
            }
        }
        tell(all);
        return bad;
    }

    // ---- comparers that are needed

    long idle(int s) {
        if (noNet(s)) {
            return -1;
        }
        Set<Integer> never = new TreeSet<>();
        for (int k = 0; k < nets.get(s).size(); k++) {
            never.add(k);
        }
        for (int p = 0; p < 1 << wires[s]; p++) {
            never.removeAll(pass(nets.get(s), bits(wires[s], p), HOW_NORMAL));
        }
        tell(never.size());
        return asBits(new ArrayList<>(never));
    }

    private boolean isSpare(int s, int k) {
        return wrongs(without(nets.get(s), k), wires[s], HOW_NORMAL).isEmpty();
    }

    long spare(int s) {
        if (noNet(s)) {
            return -1;
        }
        if (!wrongs(s).isEmpty()) {
            return -2;
        }
        List<Integer> spare = new ArrayList<>();
        for (int k = 0; k < nets.get(s).size(); k++) {
            if (isSpare(s, k)) {
                spare.add(k);
            }
        }
        tell(spare.size());
        return asBits(spare);
    }

    int thins(int s) {
        if (noNet(s)) {
            return -1;
        }
        if (!wrongs(s).isEmpty()) {
            return -2;
        }
        int went = 0;
        for (int k = nets.get(s).size() - 1; k >= 0; k--) {
            if (isSpare(s, k)) {
                nets.get(s).remove(k);
                went++;
            }
        }
        return went;
    }

    int broken(int s, int k, int how) {
        if (noComparer(s, k) || how < 0 || how > 2) {
            return -1;
        }
        List<Integer> wrong = wrongs(nets.get(s), wires[s], new int[] {k, how});
        tell(firstOf(wrong));
        return wrong.size();
    }

    int tests(int s) {
        if (noNet(s)) {
            return -1;
        }
        if (!wrongs(s).isEmpty()) {
            return -2;
        }
        List<List<Integer>> unnoticed = new ArrayList<>();
        for (int k = 0; k < nets.get(s).size(); k++) {
            if (!isSpare(s, k)) {
                unnoticed.add(wrongs(without(nets.get(s), k), wires[s], HOW_NORMAL));
            }
        }
        tell();
        while (!unnoticed.isEmpty()) {
            int best = -1;
            int most = -1;
            for (int p = 0; p < 1 << wires[s]; p++) {
                int many = 0;
                for (List<Integer> wrong : unnoticed) {
                    many += wrong.contains(p) ? 1 : 0;
                }
                if (many > most) {
                    most = many;
                    best = p;
                }
            }
            int chosen = best;
            told.add((long) chosen);
            unnoticed.removeIf(wrong -> wrong.contains(chosen));
        }
        return told.size();
    }

    int helps(int s) {
        if (noNet(s)) {
            return -1;
        }
        int best = -1;
        int fewest = Integer.MAX_VALUE;
        for (int i = 0; i < wires[s]; i++) {
            for (int j = i + 1; j < wires[s]; j++) {
                List<int[]> longer = new ArrayList<>(nets.get(s));
                longer.add(new int[] {i, j});
                int many = wrongs(longer, wires[s], HOW_NORMAL).size();
                if (many < fewest) {
                    fewest = many;
                    best = 10 * i + j;
                }
            }
        }
        tell(fewest);
        return best;
    }

    // ---- two nets

    int same(int s, int t) {
        if (noNet(s) || noNet(t)) {
            return -1;
        }
        if (wires[s] != wires[t]) {
            return -2;
        }
        List<Integer> unlike = new ArrayList<>();
        for (int p = 0; p < 1 << wires[s]; p++) {
            if (result(nets.get(s), wires[s], p) != result(nets.get(t), wires[t], p)) {
                unlike.add(p);
            }
        }
        tell(unlike.size(), firstOf(unlike));
        return unlike.isEmpty() ? 1 : 0;
    }

    private static int turned(int[] permutation, int pattern) {
        int turned = 0;
        for (int w = 0; w < permutation.length; w++) {
            if ((pattern >> w & 1) == 1) {
                turned |= 1 << permutation[w];
            }
        }
        return turned;
    }

    private static int waysWithin(Set<Integer> one, Set<Integer> other, List<int[]> permutations) {
        int ways = 0;
        for (int[] permutation : permutations) {
            boolean part = true;
            for (int p : one) {
                if (!other.contains(turned(permutation, p))) {
                    part = false;
                    break;
                }
            }
            ways += part ? 1 : 0;
        }
        return ways;
    }

    int within(int s, int t) {
        if (noNet(s) || noNet(t)) {
            return -1;
        }
        if (wires[s] != wires[t]) {
            return -2;
        }
        if (wires[s] > 6) {
            return -3;
        }
        int ways = waysWithin(imageOf(nets.get(s), wires[s]), imageOf(nets.get(t), wires[t]), permutations(wires[s]));
        tell(ways);
        return ways > 0 ? 1 : 0;
    }

    // ---- how few will do

    int least(int n) {
        return steps(n, false);
    }

    int shallow(int n) {
        return steps(n, true);
    }

    private static List<int[]> allPairs(int n) {
        List<int[]> pairs = new ArrayList<>();
        for (int i = 0; i < n; i++) {
            for (int j = i + 1; j < n; j++) {
                pairs.add(new int[] {i, j});
            }
        }
        return pairs;
    }

    /** The sets of comparers that a step may put behind, in their order. */
    private static List<List<int[]>> moves(int n, boolean layers) {
        List<int[]> pairs = allPairs(n);
        List<List<int[]>> moves = new ArrayList<>();
        for (int number = 1; number < 1 << pairs.size(); number++) {
            List<int[]> move = new ArrayList<>();
            boolean apart = true;
            for (int k = 0; k < pairs.size(); k++) {
                if ((number >> k & 1) == 1) {
                    for (int[] before : move) {
                        apart &= !meet(before, pairs.get(k));
                    }
                    move.add(pairs.get(k));
                }
            }
            if (layers ? apart : move.size() == 1) {
                moves.add(move);
            }
        }
        return moves;
    }

    private static boolean over(List<Set<Integer>> kept, int n) {
        for (Set<Integer> set : kept) {
            if (set.size() == n + 1) {
                return true;
            }
        }
        return false;
    }

    private int steps(int n, boolean layers) {
        if (n < 1 || n > 5) {
            return -1;
        }
        List<int[]> permutations = permutations(n);
        List<List<int[]>> moves = moves(n, layers);
        List<Set<Integer>> kept = new ArrayList<>();
        kept.add(imageOf(new ArrayList<>(), n));
        int steps = 0;
        tell();
        while (!over(kept, n)) {
            List<Set<Integer>> fresh = new ArrayList<>();
            for (Set<Integer> set : kept) {
                for (List<int[]> move : moves) {
                    Set<Integer> becomes = new TreeSet<>();
                    for (int p : set) {
                        becomes.add(result(move, n, p));
                    }
                    boolean aside = false;
                    for (Set<Integer> other : fresh) {
                        aside |= waysWithin(other, becomes, permutations) > 0;
                    }
                    if (!aside) {
                        fresh.removeIf(other -> waysWithin(becomes, other, permutations) > 0);
                        fresh.add(becomes);
                    }
                }
            }
            kept = fresh;
            told.add((long) kept.size());
            steps++;
        }
        return steps;
    }

    int rest(int s) {
        if (noNet(s)) {
            return -1;
        }
        int n = wires[s];
        if (n > 4) {
            return -2;
        }
        List<int[]> pairs = allPairs(n);
        Set<Integer> image = imageOf(nets.get(s), n);
        for (int many = 0;; many++) {
            int sequences = (int) Math.round(Math.pow(pairs.size(), many));
            for (int number = 0; number < sequences; number++) {
                List<int[]> behind = new ArrayList<>();
                int left = number;
                for (int k = 0; k < many; k++) {
                    behind.add(0, pairs.get(left % pairs.size()));
                    left /= pairs.size();
                }
                boolean good = true;
                for (int p : image) {
                    good = good && sorted(bits(n, result(behind, n, p)));
                }
                if (good) {
                    tell(behind.stream().mapToLong(pair -> 10L * pair[0] + pair[1]).toArray());
                    return many;
                }
            }
        }
    }

    int has(int s, int what) {
        if (noNet(s) || what < 0 || what > 1) {
            return -1;
        }
        return what == 0 ? wires[s] : nets.get(s).size();
    }

    int count(int what) {
        if (what == 0) {
            return told.size();
        }
        if (what == 1) {
            return text.length();
        }
        int all = 0;
        for (List<int[]> net : nets) {
            all += net.size();
        }
        return what == 2 ? all : -1;
    }

    long row(int i) {
        if (i < 0 || i >= told.size()) {
            throw new NoSuchElementException();
        }
        return told.get(i);
    }
}
