/** Promises 35 to 40: how few will do. */
public final class HowFewTest {
    public static void main(String[] args) {
        least();
        shallow();
        rest();
        restOfMany();
        has();
        count();
        row();
        Check.finish("HowFewTest");
    }

    private static void least() {
        SortingNets x = new SortingNets();
        x.sorts(0);
        Check.due("35: none", x.least(0), -1);
        Check.due("35: six", x.least(6), -1);
        Check.due("35: -1", x.least(-1), -1);
        Check.row("35: row stays", x, 11, 1);
        Check.due("35: one", x.least(1), 0);
        Check.row("35: one", x);
        Check.due("35: two", x.least(2), 1);
        Check.row("35: two", x, 1);
        Check.due("35: three", x.least(3), 3);
        Check.row("35: three", x, 1, 2, 1);
        Check.due("35: four", x.least(4), 5);
        Check.row("35: four", x, 1, 3, 4, 2, 1);
        Check.due("35: five", x.least(5), 9);
        Check.row("35: five", x, 1, 3, 6, 11, 10, 7, 6, 4, 1);
        Check.due("35: four again", x.least(4), 5);
        Check.row("35: four again", x, 1, 3, 4, 2, 1);
    }

    private static void shallow() {
        SortingNets x = new SortingNets();
        x.sorts(0);
        Check.due("36: none", x.shallow(0), -1);
        Check.due("36: six", x.shallow(6), -1);
        Check.row("36: row stays", x, 11, 1);
        Check.due("36: one", x.shallow(1), 0);
        Check.row("36: one", x);
        Check.due("36: two", x.shallow(2), 1);
        Check.row("36: two", x, 1);
        Check.due("36: three", x.shallow(3), 3);
        Check.row("36: three", x, 1, 2, 1);
        Check.due("36: four", x.shallow(4), 3);
        Check.row("36: four", x, 1, 2, 1);
        Check.due("36: five", x.shallow(5), 5);
        Check.row("36: five", x, 1, 6, 7, 2, 1);
    }

    private static void rest() {
        SortingNets x = new SortingNets();
        Check.due("37: without comparers", x.rest(0), 5);
        Check.row("37: without comparers", x, 1, 23, 2, 13, 12);
        Check.net(x, 0, "4:01,23,02,13");
        Check.due("37: one", x.rest(0), 1);
        Check.row("37: one", x, 12);
        x.adds(0, 1, 2);
        Check.due("37: sorts", x.rest(0), 0);
        Check.row("37: sorts", x);
        x.makes(1, 3, 0);
        Check.due("37: three", x.rest(1), 3);
        Check.row("37: three", x, 1, 2, 12);
        x.makes(1, 2, 0);
        Check.due("37: two", x.rest(1), 1);
        Check.row("37: two", x, 1);
        x.makes(1, 5, 0);
        Check.due("37: five", x.rest(1), -2);
        Check.due("37: net 4", x.rest(4), -1);
        Check.due("37: net -1", x.rest(-1), -1);
        Check.row("37: row stays", x, 1);
    }

    /** What is to come does sort, and without its last one does not. */
    private static void restOfMany() {
        for (int seed = 0; seed < 40; seed++) {
            SortingNets x = new SortingNets();
            x.draws(0, 4, seed % 6, seed);
            int many = x.rest(0);
            int[] codes = new int[many];
            for (int i = 0; i < many; i++) {
                codes[i] = (int) x.row(i);
            }
            for (int i = 0; i < many; i++) {
                Check.due("37: not sorted yet", x.sorts(0), 0);
                x.adds(0, codes[i] / 10, codes[i] % 10);
                Check.due("37: what is left", x.rest(0), many - 1 - i);
            }
            Check.due("37: sorted", x.sorts(0), 1);
        }
    }

    private static void has() {
        SortingNets x = new SortingNets();
        x.makes(2, 7, 1);
        Check.due("38: wires", x.has(2, 0), 7);
        Check.due("38: comparers", x.has(2, 1), 21);
        Check.due("38: what 2", x.has(2, 2), -1);
        Check.due("38: what -1", x.has(2, -1), -1);
        Check.due("38: net 4", x.has(4, 1), -1);
        Check.due("38: net -1", x.has(-1, 1), -1);
    }

    private static void count() {
        SortingNets x = new SortingNets();
        x.makes(0, 4, 1);
        x.makes(3, 8, 4);
        x.sorts(1);
        x.sign(0);
        x.end(3);
        Check.due("39: row", x.count(0), 2);
        Check.due("39: text", x.count(1), 3);
        Check.due("39: comparers", x.count(2), 25);
        Check.due("39: what 3", x.count(3), -1);
        Check.due("39: what -1", x.count(-1), -1);
    }

    private static void row() {
        SortingNets x = new SortingNets();
        Check.due("40: none at first", Check.throwsAt(x, 0), true);
        x.sorts(0);
        Check.due("40: row(0)", x.row(0), 11);
        Check.due("40: row(1)", x.row(1), 1);
        Check.due("40: row(2) throws", Check.throwsAt(x, 2), true);
        Check.due("40: row(-1) throws", Check.throwsAt(x, -1), true);
        Check.due("40: row(MIN) throws", Check.throwsAt(x, Integer.MIN_VALUE), true);
        Check.due("40: row(MAX) throws", Check.throwsAt(x, Integer.MAX_VALUE), true);
        Check.due("40: row(0) stays", x.row(0), 11);
        x.image(0);
        Check.due("40: row(1) is gone", Check.throwsAt(x, 1), true);
        x.depth(0);
        Check.due("40: row(0) is gone", Check.throwsAt(x, 0), true);
    }
}
