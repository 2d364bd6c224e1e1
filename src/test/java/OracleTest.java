import java.util.Random;

/** Runs of drawn calls on the class and on the plain oracle: answers, rows and nets must be alike. */
public final class OracleTest {
    private static final int RUNS = 600;
    private static final int CALLS = 40;

    private final Random random;
    private final int run;
    private final SortingNets x = new SortingNets();
    private final Oracle o = new Oracle();
    /** Few wires keep the oracle's slowest calls quick. */
    private final int mostWires;

    private OracleTest(int run) {
        this.run = run;
        random = new Random(7919L * run + 1);
        mostWires = 2 + run % 7;
    }

    public static void main(String[] args) {
        for (int run = 0; run < RUNS; run++) {
            new OracleTest(run).go();
        }
        steps();
        Check.finish("OracleTest");
    }

    private static void steps() {
        SortingNets x = new SortingNets();
        Oracle o = new Oracle();
        for (int n = 0; n <= 6; n++) {
            Check.due("least(" + n + ")", x.least(n), o.least(n));
            rows("least(" + n + ")", x, o);
            Check.due("shallow(" + n + ")", x.shallow(n), o.shallow(n));
            rows("shallow(" + n + ")", x, o);
        }
    }

    private static void rows(String call, SortingNets x, Oracle o) {
        Check.due(call + ": count(0)", x.count(0), o.count(0));
        for (int i = 0; i < o.count(0) && i < x.count(0); i++) {
            Check.due(call + ": row(" + i + ")", x.row(i), o.row(i));
        }
        Check.due(call + ": row throws", Check.throwsAt(x, o.count(0)), true);
    }

    private void go() {
        if (random.nextInt(4) > 0) {
            fill();
        }
        for (int call = 0; call < CALLS; call++) {
            int which = random.nextInt(36);
            if (which < 13) {
                change(which);
            } else if (which < 18) {
                tellText(which);
            } else if (which < 28) {
                ask(which);
            } else {
                askMore(which);
            }
            Check.due(name("count(1)"), x.count(1), o.count(1));
            Check.due(name("count(2)"), x.count(2), o.count(2));
        }
        nets();
    }

    private String name(String call) {
        return "run " + run + ": " + call;
    }

    private void due(String call, long got, long want) {
        Check.due(name(call), got, want);
        if (random.nextInt(3) == 0) {
            rows(name(call), x, o);
        }
    }

    private void nets() {
        rows(name("at last"), x, o);
        for (int s = 0; s < 4; s++) {
            Check.due(name("has(" + s + ", 0)"), x.has(s, 0), o.has(s, 0));
            Check.due(name("has(" + s + ", 1)"), x.has(s, 1), o.has(s, 1));
            for (int k = 0; k < o.has(s, 1); k++) {
                Check.due(name("comparer(" + s + ", " + k + ")"), x.comparer(s, k), o.comparer(s, k));
                Check.due(name("layer"), x.row(0), o.row(0));
            }
        }
    }

    private void fill() {
        for (int s = 0; s < 4; s++) {
            int n = wires();
            int way = random.nextInt(6);
            int k = random.nextInt(30);
            int seed = random.nextInt();
            if (way < 5) {
                due("makes", x.makes(s, n, way), o.makes(s, n, way));
            } else {
                due("draws", x.draws(s, n, k, seed), o.draws(s, n, k, seed));
            }
        }
    }

    private int wires() {
        int odd = random.nextInt(40);
        return odd == 0 ? 1 : odd == 1 ? 9 : 2 + random.nextInt(mostWires - 1);
    }

    private int net() {
        int odd = random.nextInt(60);
        return odd == 0 ? 4 : odd == 1 ? -1 : random.nextInt(4);
    }

    /** A number from -1 to above the last one. */
    private int about(int below) {
        return random.nextInt(12) == 0 ? random.nextInt(3) - 1 + (random.nextBoolean() ? below : 0) : random.nextInt(Math.max(1, below));
    }

    private int wireOf(int s) {
        return about(Math.max(2, x.has(s, 0)));
    }

    private int comparerOf(int s) {
        return about(Math.max(0, x.has(s, 1)));
    }

    private void change(int which) {
        int s = net();
        int t = net();
        int k = comparerOf(s);
        int i = wireOf(s);
        int j = wireOf(s);
        int n = wires();
        int way = random.nextInt(7) - 1;
        int many = random.nextInt(64) - 1;
        int seed = random.nextInt();
        boolean great = random.nextBoolean();
        switch (which) {
            case 0 -> due("makes(" + s + ", " + n + ", " + way + ")", x.makes(s, n, way), o.makes(s, n, way));
            case 1 -> due("draws(" + s + ", " + n + ", " + many + ", " + seed + ")", x.draws(s, n, many, seed), o.draws(s, n, many, seed));
            case 2, 3 -> due("adds(" + s + ", " + i + ", " + j + ")", x.adds(s, i, j), o.adds(s, i, j));
            case 4 -> due("drops(" + s + ", " + k + ")", x.drops(s, k), o.drops(s, k));
            case 5 -> due("swaps(" + s + ", " + k + ")", x.swaps(s, k), o.swaps(s, k));
            case 6 -> due("copies(" + s + ", " + t + ")", x.copies(s, t), o.copies(s, t));
            case 7 -> due("joins(" + s + ", " + t + ")", x.joins(s, t), o.joins(s, t));
            case 8 -> due("flips(" + s + ")", x.flips(s), o.flips(s));
            case 9 -> due("mirrors(" + s + ")", x.mirrors(s), o.mirrors(s));
            case 10 -> due("lays(" + s + ")", x.lays(s), o.lays(s));
            case 11 -> due("cuts(" + s + ", " + i + ", " + great + ", " + t + ")", x.cuts(s, i, great, t), o.cuts(s, i, great, t));
            default -> due("thins(" + s + ")", x.thins(s), o.thins(s));
        }
    }

    private void tellText(int which) {
        int s = net();
        boolean asNet = which < 16;
        StringBuilder text = new StringBuilder();
        if (asNet) {
            int n = 2 + random.nextInt(mostWires - 1);
            text.append(n).append(':');
            int pairs = random.nextInt(10) == 0 ? 58 + random.nextInt(4) : random.nextInt(12);
            for (int k = 0; k < pairs; k++) {
                int a = random.nextInt(n);
                int b = random.nextInt(n - 1);
                text.append(k > 0 ? "," : "").append(a).append(b >= a ? b + 1 : b);
            }
        } else {
            for (int w = 0; w < Math.max(2, x.has(s, 0)); w++) {
                text.append(w > 0 ? "," : "").append(random.nextInt(random.nextBoolean() ? 10 : 10000));
            }
        }
        spoil(text);
        feed(text.toString());
        if (asNet) {
            due("net(" + s + ") of " + text, x.net(s), o.net(s));
        } else {
            due("tells(" + s + ") of " + text, x.tells(s), o.tells(s));
        }
    }

    private void spoil(StringBuilder text) {
        String signs = "0123456789,:; x";
        if (random.nextInt(4) == 0 && text.length() > 0) {
            text.setCharAt(random.nextInt(text.length()), signs.charAt(random.nextInt(signs.length())));
        }
        if (random.nextInt(8) == 0) {
            text.setLength(random.nextInt(text.length() + 1));
        }
        if (random.nextInt(8) == 0) {
            text.insert(random.nextInt(text.length() + 1), signs.charAt(random.nextInt(signs.length())));
        }
    }

    private void feed(String text) {
        for (int p = 0; p < text.length(); p += 4) {
            int v = 0;
            for (int b = 0; b < 4; b++) {
                v = v << 8 | (p + b < text.length() ? text.charAt(p + b) : 0);
            }
            Check.due(name("sign(" + v + ")"), x.sign(v), o.sign(v));
        }
        int n = random.nextInt(50) == 0 ? random.nextInt(260) - 20 : text.length();
        Check.due(name("end(" + n + ")"), x.end(n), o.end(n));
    }

    private void ask(int which) {
        int s = net();
        int k = comparerOf(s);
        int w = wireOf(s);
        int pattern = about(1 << Math.max(0, x.has(s, 0)));
        boolean small = o.has(s, 0) <= 6;
        switch (which) {
            case 18 -> due("comparer(" + s + ", " + k + ")", x.comparer(s, k), o.comparer(s, k));
            case 19 -> due("depth(" + s + ")", x.depth(s), o.depth(s));
            case 20 -> due("runs(" + s + ", " + pattern + ")", x.runs(s, pattern), o.runs(s, pattern));
            case 21 -> due("sorts(" + s + ")", x.sorts(s), o.sorts(s));
            case 22 -> due("image(" + s + ")", x.image(s), o.image(s));
            case 23 -> due("comes(" + s + ", " + pattern + ")", x.comes(s, pattern), o.comes(s, pattern));
            case 24 -> due("merges(" + s + ", " + w + ")", x.merges(s, w), o.merges(s, w));
            default -> {
                if (small || random.nextInt(20) == 0) {
                    askOrders(which, s, w);
                }
            }
        }
    }

    private void askOrders(int which, int s, int w) {
        switch (which) {
            case 25 -> due("ranks(" + s + ", " + w + ")", x.ranks(s, w), o.ranks(s, w));
            case 26 -> due("leaves(" + s + ", " + w + ")", x.leaves(s, w), o.leaves(s, w));
            default -> due("orders(" + s + ")", x.orders(s), o.orders(s));
        }
    }

    private void askMore(int which) {
        int s = net();
        int t = net();
        int k = comparerOf(s);
        int how = random.nextInt(12) == 0 ? random.nextInt(6) - 2 : random.nextInt(3);
        switch (which) {
            case 28 -> due("idle(" + s + ")", x.idle(s), o.idle(s));
            case 29 -> due("spare(" + s + ")", x.spare(s), o.spare(s));
            case 30 -> due("broken(" + s + ", " + k + ", " + how + ")", x.broken(s, k, how), o.broken(s, k, how));
            case 31 -> due("tests(" + s + ")", x.tests(s), o.tests(s));
            case 32 -> due("helps(" + s + ")", x.helps(s), o.helps(s));
            case 33 -> due("same(" + s + ", " + t + ")", x.same(s, t), o.same(s, t));
            case 34 -> due("within(" + s + ", " + t + ")", x.within(s, t), o.within(s, t));
            default -> {
                if (random.nextInt(4) == 0 || o.has(s, 0) < 4) {
                    due("rest(" + s + ")", x.rest(s), o.rest(s));
                }
            }
        }
    }
}
