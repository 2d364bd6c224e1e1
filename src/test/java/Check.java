import java.util.NoSuchElementException;

/** What the tests share: calls are compared with what is due, and the odd ones are printed. */
final class Check {
    private static int wrong = 0;

    private Check() {
    }

    static void due(String call, long got, long want) {
        if (got != want) {
            wrong++;
            System.out.println(call + " answered " + got + ", due is " + want);
        }
    }

    static void due(String call, boolean got, boolean want) {
        due(call, got ? 1 : 0, want ? 1 : 0);
    }

    /** Compares the whole row, its length and the two places beside it too. */
    static void row(String call, SortingNets x, long... want) {
        due(call + ": numbers of the row", x.count(0), want.length);
        for (int i = 0; i < want.length && i < x.count(0); i++) {
            due(call + ": row(" + i + ")", x.row(i), want[i]);
        }
        due(call + ": row(-1) throws", throwsAt(x, -1), true);
        due(call + ": row(" + want.length + ") throws", throwsAt(x, want.length), true);
    }

    static boolean throwsAt(SortingNets x, int i) {
        try {
            x.row(i);
            return false;
        } catch (NoSuchElementException e) {
            return true;
        }
    }

    /** Puts signs behind the text; at most three more come and go. */
    static void text(SortingNets x, String signs) {
        int before = x.count(1);
        for (int p = 0; p < signs.length(); p += 4) {
            int v = 0;
            for (int b = 0; b < 4; b++) {
                int sign = p + b < signs.length() ? signs.charAt(p + b) : 0;
                v = v << 8 | sign;
            }
            x.sign(v);
        }
        due("end behind \"" + signs + "\"", x.end(before + signs.length()), true);
    }

    static int net(SortingNets x, int s, String signs) {
        text(x, signs);
        return x.net(s);
    }

    static int tells(SortingNets x, int s, String signs) {
        text(x, signs);
        return x.tells(s);
    }

    /** Compares wires and comparers with those of a text without crossed pairs. */
    static void shape(String call, SortingNets x, int s, String signs) {
        due(call + ": wires", x.has(s, 0), signs.charAt(0) - '0');
        int many = signs.length() <= 2 ? 0 : (signs.length() - 1) / 3;
        due(call + ": comparers", x.has(s, 1), many);
        for (int k = 0; k < many; k++) {
            due(call + ": comparer " + k, x.comparer(s, k), Integer.parseInt(signs.substring(3 * k + 2, 3 * k + 4)));
        }
    }

    static void finish(String name) {
        if (wrong != 0) {
            System.out.println(name + ": " + wrong + " answers are not as due");
            System.exit(1);
        }
    }
}
