/** Promises 27 to 32: comparers that are needed. */
public final class NeededTest {
    private static final String FOUR = "4:01,23,02,13,12";

    public static void main(String[] args) {
        idle();
        spare();
        thins();
        broken();
        tests();
        testsOfMany();
        helps();
        sixty();
        rowStaysWhenRefused();
        Check.finish("NeededTest");
    }

    private static void idle() {
        SortingNets x = new SortingNets();
        Check.due("27: without comparers", x.idle(0), 0);
        Check.row("27: without comparers", x, 0);
        Check.net(x, 0, "4:01,01,23,02,13,12,03");
        Check.due("27: idle", x.idle(0), 0b1000010);
        Check.row("27: idle", x, 2);
        x.makes(1, 8, 0);
        x.adds(1, 6, 7);
        for (int k = 1; k < 60; k++) {
            x.adds(1, 6, 7);
        }
        Check.due("27: sixty", x.idle(1), (1L << 60) - 2);
        Check.row("27: sixty", x, 59);
        Check.due("27: net 4", x.idle(4), -1);
        Check.due("27: net -1", x.idle(-1), -1);
        Check.row("27: row stays", x, 59);
        // of 8 wires the two last ones are unlike only in patterns above 63
        x.makes(2, 8, 0);
        x.adds(2, 6, 7);
        Check.due("27: above pattern 63", x.idle(2), 0);
    }

    private static void spare() {
        SortingNets x = new SortingNets();
        Check.due("28: does not sort", x.spare(0), -2);
        Check.row("28: row stays", x);
        Check.net(x, 0, FOUR);
        Check.due("28: none", x.spare(0), 0);
        Check.row("28: none", x, 0);
        x.joins(0, 0);
        Check.due("28: all of two alike", x.spare(0), 1023);
        Check.row("28: all of two alike", x, 10);
        Check.net(x, 1, "2:01,01");
        Check.due("28: either one", x.spare(1), 3);
        Check.net(x, 1, "3:01,12,01,01");
        Check.due("28: one of the last two", x.spare(1), 0b1100);
        Check.row("28: one of the last two", x, 2);
        x.makes(2, 8, 1);
        Check.due("28: eight", x.spare(2), 0);
        Check.due("28: net 4", x.spare(4), -1);
        Check.due("28: net -1", x.spare(-1), -1);
    }

    private static void thins() {
        SortingNets x = new SortingNets();
        x.sorts(0);
        Check.due("29: does not sort", x.thins(0), -2);
        Check.net(x, 0, FOUR);
        x.sorts(1);
        Check.due("29: none goes", x.thins(0), 0);
        x.joins(0, 0);
        Check.due("29: the last five go", x.thins(0), 5);
        Check.row("29: row stays", x, 11, 1);
        Check.shape("29: thins", x, 0, FOUR);
        Check.net(x, 1, "3:12,01,12,01,12");
        Check.due("29: the last two go", x.thins(1), 2);
        Check.shape("29: thins", x, 1, "3:12,01,12");
        Check.net(x, 1, "3:02,02,12,01,12");
        // the last goes: 02 12 01 sorts; then 01 and 12 must stay, and one of 02
        Check.due("29: from the last to the first", x.thins(1), 2);
        Check.shape("29: from the last to the first", x, 1, "3:02,12,01");
        Check.net(x, 1, "4:12,01,23,02,13,12");
        Check.due("29: the first one", x.thins(1), 1);
        Check.shape("29: the first one", x, 1, FOUR);
        Check.due("29: net 4", x.thins(4), -1);
        Check.due("29: net -1", x.thins(-1), -1);
    }

    private static void broken() {
        SortingNets x = new SortingNets();
        Check.net(x, 0, FOUR);
        Check.due("30: lets through", x.broken(0, 0, 0), 2);
        Check.row("30: lets through", x, 1);
        Check.due("30: exchanges", x.broken(0, 0, 1), 2);
        Check.row("30: exchanges", x, 2);
        Check.due("30: turned", x.broken(0, 0, 2), 4);
        Check.row("30: turned", x, 1);
        Check.due("30: the last one turned", x.broken(0, 4, 2), 6);
        Check.row("30: the last one turned", x, 3);
        Check.net(x, 1, "2:01,01");
        Check.due("30: not missed", x.broken(1, 1, 0), 0);
        Check.row("30: not missed", x, -1);
        Check.due("30: mended by the next", x.broken(1, 0, 2), 0);
        Check.due("30: always exchanged", x.broken(1, 1, 1), 2);
        Check.row("30: always exchanged", x, 1);
        x.makes(2, 8, 2);
        x.adds(2, 6, 7);
        // only a single 1 is told from a 0 there
        Check.due("30: the last wires exchanged", x.broken(2, 28, 1), 8);
        Check.row("30: the last wires exchanged", x, 1);
        Check.due("30: how 3", x.broken(0, 0, 3), -1);
        Check.due("30: how -1", x.broken(0, 0, -1), -1);
        Check.due("30: none such", x.broken(0, 5, 0), -1);
        Check.due("30: none such", x.broken(0, -1, 0), -1);
        Check.due("30: net 4", x.broken(4, 0, 0), -1);
        Check.due("30: net -1", x.broken(-1, 0, 0), -1);
        Check.row("30: row stays", x, 1);
        Check.shape("30: nothing changes", x, 0, FOUR);
    }

    private static void tests() {
        SortingNets x = new SortingNets();
        Check.due("31: does not sort", x.tests(0), -2);
        Check.row("31: row stays", x);
        Check.net(x, 0, FOUR);
        Check.due("31: tests", x.tests(0), 3);
        Check.row("31: tests", x, 1, 7, 5);
        x.joins(0, 0);
        x.sorts(1);
        Check.due("31: all are spare", x.tests(0), 0);
        Check.row("31: all are spare", x);
        Check.net(x, 1, "2:01");
        Check.due("31: one", x.tests(1), 1);
        Check.row("31: one", x, 1);
        // wrong without the first: 1; without the second: 1, 2, 3; without the last: 3
        Check.net(x, 1, "3:01,12,01");
        Check.due("31: of equal ones the first", x.tests(1), 2);
        Check.row("31: of equal ones the first", x, 1, 3);
        Check.net(x, 1, "3:01,12,01,01");
        Check.due("31: but for spare ones", x.tests(1), 1);
        Check.row("31: but for spare ones", x, 1);
        Check.due("31: net 4", x.tests(4), -1);
        Check.due("31: net -1", x.tests(-1), -1);
    }

    /** How many tests the row has, if they notice each comparer that is not spare, else -1. */
    private static long noticed(SortingNets x, int s) {
        int many = x.count(0);
        long[] tests = new long[many];
        for (int i = 0; i < many; i++) {
            tests[i] = x.row(i);
        }
        for (int k = 0; k < x.has(s, 1); k++) {
            if (x.broken(s, k, 0) == 0) {
                continue;
            }
            x.copies(s, 3);
            x.drops(3, k);
            boolean one = false;
            for (long test : tests) {
                int out = x.runs(3, (int) test);
                int ones = Integer.bitCount(out);
                one |= out != (1 << x.has(3, 0)) - (1 << (x.has(3, 0) - ones));
            }
            if (!one) {
                return -1;
            }
        }
        return many;
    }

    private static void testsOfMany() {
        for (int n = 2; n <= 8; n++) {
            for (int way = 1; way <= 4; way++) {
                SortingNets x = new SortingNets();
                x.makes(0, n, way);
                int many = x.tests(0);
                Check.due("31: tests of " + n + " by way " + way, noticed(x, 0), many);
            }
        }
    }

    private static void helps() {
        SortingNets x = new SortingNets();
        Check.due("32: without comparers", x.helps(0), 3);
        Check.row("32: without comparers", x, 8);
        Check.net(x, 0, "4:01,23");
        Check.due("32: helps", x.helps(0), 12);
        Check.row("32: helps", x, 5);
        Check.net(x, 0, "4:01,23,02,13");
        Check.due("32: the last one", x.helps(0), 12);
        Check.row("32: the last one", x, 0);
        Check.net(x, 0, FOUR);
        Check.due("32: of equal ones the first", x.helps(0), 1);
        Check.row("32: of equal ones the first", x, 0);
        Check.shape("32: nothing changes", x, 0, FOUR);
        x.makes(1, 8, 4);
        x.drops(1, x.has(1, 1) - 1);
        Check.due("32: eight", x.helps(1), 56);
        Check.row("32: eight", x, 0);
        x.draws(2, 2, 60, 0);
        Check.due("32: though there are 60", x.helps(2), 1);
        Check.due("32: net 4", x.helps(4), -1);
        Check.due("32: net -1", x.helps(-1), -1);
    }

    private static void sixty() {
        SortingNets x = new SortingNets();
        x.makes(0, 8, 4);
        while (x.has(0, 1) < 60) {
            x.adds(0, 0, 1);
        }
        Check.due("27: sixty", x.idle(0), (1L << 60) - (1L << 19));
        Check.due("28: sixty", x.spare(0), (1L << 60) - (1L << 19));
        Check.row("28: sixty", x, 41);
        int many = x.tests(0);
        Check.due("31: sixty", noticed(x, 0), many);
        Check.due("30: sixty", x.broken(0, 59, 0), 0);
        Check.due("30: sixty", x.broken(0, 59, 2) > 0, true);
        Check.due("32: sixty", x.helps(0), 1);
        Check.due("29: sixty", x.thins(0), 41);
    }

    private static void rowStaysWhenRefused() {
        SortingNets x = new SortingNets();
        x.sorts(0);
        for (int s = -1; s <= 4; s += 5) {
            x.idle(s);
            x.spare(s);
            x.thins(s);
            x.broken(s, 0, 0);
            x.tests(s);
            x.helps(s);
        }
        x.spare(0);
        x.thins(0);
        x.tests(0);
        x.broken(0, 0, 0);
        Check.row("27 to 32: row stays", x, 11, 1);
    }
}
