/** Promises 27 to 34: each sentence that names a boundary case has a test of its own. */
public final class NeededEdgesTest {
    public static void main(String[] args) throws ReflectiveOperationException {
        Edges.run(NeededEdgesTest.class);
    }

    // ---- 27, 28, 29: idle, spare, thins

    /** 27: COMPARERS that are never BUSY, as bits: none without COMPARERS, none of the first ones. */
    static void p27None() {
        SortingNets x = Edges.with("8:", "2:01", "8:01,23,45,67");
        for (int s = 0; s <= 2; s++) {
            Check.due("27: net " + s, x.idle(s), 0);
            Check.row("27: net " + s, x, 0);
        }
    }

    /** 27: .. all but the first one of sixty: bits above 31, too. */
    static void p27AllButOne() {
        SortingNets x = Edges.with(Edges.pairs(2, 60));
        Check.due("27: all but the first", x.idle(0), (1L << 60) - 2);
        Check.row("27: all but the first", x, 59);
    }

    /** 27: .. the last one of sixty alone. */
    static void p27TheLastAlone() {
        SortingNets x = Edges.with("8:01,12,23,34,45,56,67,67");
        Check.due("27: the last of eight", x.idle(0), 128);
        Check.row("27: the last of eight", x, 1);
        x.makes(1, 8, 0);
        for (int k = 0; k < 60; k++) {
            x.adds(1, k == 59 ? 0 : 6, k == 59 ? 1 : 7);
        }
        Check.due("27: but the first and the last", x.idle(1), (1L << 59) - 2);
        Check.row("27: but the first and the last", x, 58);
    }

    /** 27: a net need not sort for it. */
    static void p27DoesNotSort() {
        SortingNets x = Edges.with("4:03,12,03");
        Check.due("27: does not sort", x.idle(0), 4);
        Check.row("27: does not sort", x, 1);
    }

    /** 28: -2: it does not SORT: without COMPARERS, and with sixty. */
    static void p28DoesNotSort() {
        Edges.refused("28: does not sort", -2, x -> x.spare(1));
        for (int n = 2; n <= 8; n++) {
            Check.due("28: none of " + n, Edges.with(n + ":").spare(0), -2);
        }
        SortingNets x = Edges.with("8:");
        for (int k = 0; k < 60; k++) {
            x.adds(0, 0, 7);
        }
        Check.due("28: sixty", x.spare(0), -2);
    }

    /** 28: SPARE COMPARERS, as bits: none of them. */
    static void p28None() {
        SortingNets x = Edges.with("2:01", Edges.FOUR, "3:02,01,12");
        for (int s = 0; s <= 2; s++) {
            Check.due("28: net " + s, x.spare(s), 0);
            Check.row("28: net " + s, x, 0);
        }
    }

    /** 28: .. all of them: bits above 31, too. */
    static void p28AllOfThem() {
        SortingNets x = Edges.with(Edges.pairs(2, 60));
        Check.due("28: all of sixty", x.spare(0), (1L << 60) - 1);
        Check.row("28: all of sixty", x, 60);
        x.makes(0, 2, 1);
        x.adds(0, 0, 1);
        Check.due("28: both", x.spare(0), 3);
        Check.row("28: both", x, 2);
    }

    /** 28: SPARE is not idle: one that is busy may be spare, if another one does what it does. */
    static void p28BusyOnesToo() {
        SortingNets x = Edges.with("4:01,23,02,13,12,12", "3:02,01,12,01");
        Check.due("28: one of the last two", x.spare(0), 48);
        Check.due("27: the last is idle", x.idle(0), 32);
        Check.due("28: 3:02,01,12,01", x.spare(1), 11);
        Check.row("28: 3:02,01,12,01", x, 3);
    }

    /** 29: -2: it does not SORT: nothing goes. */
    static void p29DoesNotSort() {
        Edges.refused("29: does not sort", -2, x -> x.thins(1));
        SortingNets x = Edges.with("3:01,01,12");
        Check.due("29: though one is idle", x.thins(0), -2);
        Check.shape("29: though one is idle", x, 0, "3:01,01,12");
    }

    /** 29: how many went: none. */
    static void p29None() {
        SortingNets x = Edges.with("2:01", Edges.FOUR);
        Check.due("29: one", x.thins(0), 0);
        Check.shape("29: one", x, 0, "2:01");
        Check.due("29: five", x.thins(1), 0);
        Check.shape("29: five", x, 1, Edges.FOUR);
    }

    /** 29: it goes, if it is SPARE then: not all that were spare at first. */
    static void p29SpareThen() {
        SortingNets x = Edges.with("2:01,01", "3:02,01,12,01", Edges.pairs(2, 60));
        Check.due("29: one of two", x.thins(0), 1);
        Check.shape("29: one of two", x, 0, "2:01");
        Check.due("29: one of three", x.thins(1), 1);
        Check.shape("29: one of three", x, 1, "3:02,01,12");
        Check.due("29: fifty-nine of sixty", x.thins(2), 59);
        Check.shape("29: fifty-nine of sixty", x, 2, "2:01");
    }

    /** 29: From the last COMPARER to the first: the last ones go, where others could. */
    static void p29FromTheLast() {
        SortingNets x = Edges.with("3:01,12,01,12", "4:01,23,02,13,12,01,23,02,13,12");
        Check.due("29: the last one", x.thins(0), 1);
        Check.shape("29: the last one", x, 0, "3:01,12,01");
        Check.due("29: the last five", x.thins(1), 5);
        Check.shape("29: the last five", x, 1, Edges.FOUR);
    }

    /** 29: .. to the first: it alone goes. */
    static void p29ToTheFirst() {
        SortingNets x = Edges.with("4:01,02,13,01,23,12");
        Check.due("29: the first one", x.thins(0), 1);
        Check.shape("29: the first one", x, 0, "4:02,13,01,23,12");
    }

    // ---- 30, 31, 32: broken, tests, helps

    private static void broken(SortingNets x, int s, int k, int[] many, int[] first) {
        for (int how = 0; how <= 2; how++) {
            String call = "30: net " + s + ", comparer " + k + ", how " + how;
            Check.due(call, x.broken(s, k, how), many[how]);
            Check.row(call, x, first[how]);
        }
    }

    /** 30: how 0, 1, 2: of the first, of the last, of the only one. */
    static void p30EachHow() {
        SortingNets x = Edges.with(Edges.FOUR, "2:01", "2:01,01");
        broken(x, 0, 0, new int[] {2, 2, 4}, new int[] {1, 2, 1});
        broken(x, 0, 2, new int[] {3, 3, 6}, new int[] {3, 12, 3});
        broken(x, 0, 4, new int[] {4, 2, 6}, new int[] {5, 3, 3});
        broken(x, 1, 0, new int[] {1, 1, 2}, new int[] {1, 2, 1});
    }

    /** 30: how 0, 1, 2: of the most wires. */
    static void p30MostWires() {
        SortingNets x = new SortingNets();
        x.makes(0, 8, 4);
        broken(x, 0, 0, new int[] {16, 16, 32}, new int[] {1, 16, 1});
        broken(x, 0, 3, new int[] {16, 16, 32}, new int[] {8, 128, 8});
        broken(x, 0, 7, new int[] {22, 22, 44}, new int[] {2, 8, 2});
        broken(x, 0, 13, new int[] {15, 15, 30}, new int[] {1, 2, 1});
        broken(x, 0, 18, new int[] {12, 16, 28}, new int[] {5, 3, 3});
    }

    /** 30: the first of these (NONE). */
    static void p30NoneIsWrong() {
        SortingNets x = Edges.with("2:", "2:", "2:01,01");
        broken(x, 2, 0, new int[] {0, 0, 0}, new int[] {-1, -1, -1});
        broken(x, 2, 1, new int[] {0, 2, 2}, new int[] {-1, 1, 1});
    }

    /** 30: the last of sixty, of the most wires. */
    static void p30LastOfSixty() {
        SortingNets x = Edges.with(Edges.pairs(2, 60), "8:");
        broken(x, 0, 59, new int[] {0, 2, 2}, new int[] {-1, 1, 1});
        broken(x, 0, 58, new int[] {0, 0, 0}, new int[] {-1, -1, -1});
        for (int k = 0; k < 60; k++) {
            x.adds(1, 6, 7);
        }
        // let through or not, 246 are wrong; turned, that with a 1 on wire 7 alone and the others of its kind are, too
        Check.due("30: sixty of eight wires", x.broken(1, 59, 0), 246);
        Check.row("30: sixty of eight wires", x, 1);
        Check.due("30: sixty of eight wires, turned", x.broken(1, 59, 2), 248);
        Check.row("30: sixty of eight wires, turned", x, 1);
    }

    /** 30: NONE: another how. */
    static void p30AnotherHow() {
        for (int how : new int[] {-1, 3, Edges.MIN, Edges.MAX}) {
            Edges.refused("30: how " + how, -1, x -> x.broken(0, 0, how));
        }
    }

    /** 30: no such COMPARER. */
    static void p30NoSuchComparer() {
        for (int k : new int[] {-1, 5, Edges.MIN, Edges.MAX}) {
            for (int how = 0; how <= 2; how++) {
                int asked = how;
                Edges.refused("30: comparer " + k, -1, x -> x.broken(0, k, asked));
            }
        }
        Edges.refused("30: comparer 60", -1, x -> x.broken(3, 60, 0));
        Check.due("30: of none", new SortingNets().broken(0, 0, 0), -1);
    }

    /** 31: -2: it does not SORT. */
    static void p31DoesNotSort() {
        Edges.refused("31: does not sort", -2, x -> x.tests(1));
        Check.due("31: without comparers", new SortingNets().tests(0), -2);
    }

    /** 31: COMPARERS OUT that are not SPARE: if all are, there are no TESTS. */
    static void p31NoTests() {
        SortingNets x = Edges.with("2:01,01", Edges.pairs(2, 60));
        x.sorts(0);
        Check.due("31: both are spare", x.tests(0), 0);
        Check.row("31: both are spare", x);
        x.sorts(0);
        Check.due("31: sixty are spare", x.tests(1), 0);
        Check.row("31: sixty are spare", x);
    }

    /** 31: .. of equal ones the first. */
    static void p31EqualOnes() {
        tested("2:01", 1);
        tested("3:01,12,01", 1, 3);
        tested("3:12,01,12", 1, 3);
        tested("3:02,01,12", 2, 3, 5);
        tested(Edges.FOUR, 1, 7, 5);
    }

    /** 31: that one .. with the most .. not noticed yet. */
    static void p31TheMostNotNoticedYet() {
        tested("4:01,12,23,01,12,01", 3, 1, 7);
        tested("5:01,12,23,34,01,12,23,01,12,01", 3, 7, 1, 15);
    }

    /** 31: the most wires; then the fewest, of the same object. */
    static void p31MostAndFewestWires() {
        SortingNets x = Edges.with("8:", "2:01", Edges.FOUR);
        x.makes(0, 8, 1);
        Check.due("31: eight by way 1", x.tests(0), 7);
        Check.row("31: eight by way 1", x, 15, 3, 63, 1, 7, 31, 127);
        Check.due("31: two", x.tests(1), 1);
        Check.row("31: two", x, 1);
        x.makes(0, 8, 4);
        Check.due("31: eight by way 4", x.tests(0), 7);
        Check.row("31: eight by way 4", x, 21, 35, 87, 25, 5, 23, 95);
        Check.due("31: four", x.tests(2), 3);
        Check.row("31: four", x, 1, 7, 5);
    }

    private static void tested(String net, long... tests) {
        SortingNets x = Edges.with(net);
        Check.due("31: tests of " + net, x.tests(0), tests.length);
        Check.row("31: tests of " + net, x, tests);
    }

    /** 32: of equal ones the first by i, then j: of one that sorts all are equal. */
    static void p32EqualOnes() {
        for (int n = 2; n <= 8; n++) {
            SortingNets x = new SortingNets();
            x.makes(0, n, 4);
            Check.due("32: sorts " + n, x.helps(0), 1);
            Check.row("32: sorts " + n, x, 0);
        }
        helped("5:04,13", 2, 15);
        helped("4:03,12", 1, 4);
    }

    /** 32: The COMPARER that .. leaves the fewest PATTERNS WRONG: not the first. */
    static void p32TheFewest() {
        helped("2:", 1, 0);
        helped("3:01", 12, 1);
        helped("3:12,01", 12, 0);
        SortingNets x = new SortingNets();
        x.makes(0, 8, 1);
        x.drops(0, 27);
        x.mirrors(0);
        Check.due("32: the last one of all", x.helps(0), 67);
        Check.row("32: the last one of all", x, 0);
    }

    private static void helped(String net, int code, int wrong) {
        SortingNets x = Edges.with(net);
        Check.due("32: helps " + net, x.helps(0), code);
        Check.row("32: helps " + net, x, wrong);
        Check.shape("32: none comes", x, 0, net);
    }

    /** 32: asked of the most wires before anything else is. */
    static void p32AskedFirst() {
        SortingNets x = new SortingNets();
        x.makes(0, 8, 2);
        x.drops(0, 27);
        Check.due("32: eight", x.helps(0), 1);
        Check.row("32: eight", x, 0);
        x = new SortingNets();
        x.makes(0, 8, 0);
        x.adds(0, 0, 7);
        for (int r = 7; r > 1; r--) {
            for (int w = 1; w < r; w++) {
                x.adds(0, w, w + 1);
            }
        }
        // 1s on wires 0 and 7, and m 0s, which are on wires 1 .. m then: 63 are wrong, those of 3 are the most
        Check.due("32: wrong above 128 alone", x.helps(0), 3);
        Check.row("32: wrong above 128 alone", x, 43);
    }

    /** 32: it is asked only: sixty are not too many. */
    static void p32Sixty() {
        SortingNets x = Edges.with("3:");
        for (int k = 0; k < 60; k++) {
            x.adds(0, 0, 1);
        }
        Check.due("32: sixty", x.helps(0), 12);
        Check.row("32: sixty", x, 1);
        Check.due("32: sixty", x.has(0, 1), 60);
    }

    // ---- 33, 34: same, within

    /** 33: 1, else 0; how many PATTERNS have unlike ones, the first of them (NONE). */
    static void p33FirstOrNone() {
        SortingNets x = Edges.with("2:", "2:01", "8:", "8:67");
        Check.due("33: 2: and 2:01", x.same(0, 1), 0);
        Check.row("33: 2: and 2:01", x, 1, 1);
        Check.due("33: 8: and 8:67", x.same(2, 3), 0);
        Check.row("33: 8: and 8:67", x, 64, 64);
        Check.due("33: turned", x.same(3, 2), 0);
        Check.row("33: turned", x, 64, 64);
        Check.due("33: with itself", x.same(3, 3), 1);
        Check.row("33: with itself", x, 0, -1);
    }

    /** 33: the same RESULTS: whatever COMPARERS they have. */
    static void p33OtherComparers() {
        SortingNets x = Edges.with("4:01,23", "4:23,01", Edges.pairs(2, 60), "2:01");
        Check.due("33: in another order", x.same(0, 1), 1);
        Check.row("33: in another order", x, 0, -1);
        Check.due("33: sixty and one", x.same(2, 3), 1);
        Check.row("33: sixty and one", x, 0, -1);
    }

    /** 33: -2: they have not as many WIRES. */
    static void p33OtherWires() {
        Edges.refused("33: 4 and 2", -2, x -> x.same(0, 2));
        Edges.refused("33: 2 and 8", -2, x -> x.same(2, 3));
        Check.due("33: 7 and 8", Edges.with("7:", "8:").same(0, 1), -2);
    }

    private static void within(String s, String t, int ways) {
        SortingNets x = Edges.with(s, t);
        Check.due("34: " + s + " within " + t, x.within(0, 1), ways > 0 ? 1 : 0);
        Check.row("34: " + s + " within " + t, x, ways);
    }

    /** 34: how many permutations show it: none. */
    static void p34None() {
        within("2:", "2:01", 0);
        within("6:", "6:05", 0);
        within("3:", "3:01,12,01", 0);
    }

    /** 34: how many permutations show it: all n!, of the fewest and the most wires. */
    static void p34All() {
        int all = 1;
        for (int n = 2; n <= 6; n++) {
            all *= n;
            within(n + ":", n + ":", all);
            within(Edges.pairs(n, 60), n + ":", all);
        }
    }

    /** 34: how many permutations show it: some. */
    static void p34Some() {
        within("2:01", "2:01", 1);
        within("4:03,12", "4:01,23", 2);
        within("4:01,23", "4:03,12", 2);
        within(Edges.FOUR, "4:03,12", 6);
        within("6:05,14,23", "6:01,23,45", 6);
        within("5:01,12,23,34", "5:04", 24);
    }

    /** 34: s and t may be one. */
    static void p34WithItself() {
        SortingNets x = Edges.with("4:03,12");
        Check.due("34: with itself", x.within(0, 0), 1);
        Check.row("34: with itself", x, 2);
    }

    /** 34: -2: they have not as many WIRES. */
    static void p34OtherWires() {
        Edges.refused("34: 4 and 2", -2, x -> x.within(0, 2));
        Edges.refused("34: 2 and 4", -2, x -> x.within(2, 0));
        Check.due("34: 6 and 7", Edges.with("6:", "7:").within(0, 1), -2);
        Check.due("34: 7 and 8", Edges.with("7:", "8:").within(0, 1), -2);
    }

    /** 34: -3: n is above 6. */
    static void p34AboveSix() {
        Edges.refused("34: eight", -3, x -> x.within(3, 3));
        Check.due("34: seven", Edges.with("7:", "7:").within(0, 1), -3);
        Check.due("34: six", Edges.with("6:", "6:").within(0, 1), 1);
    }
}
