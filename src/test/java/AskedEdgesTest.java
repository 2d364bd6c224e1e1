/** Promises 16 to 26: each sentence that names a boundary case has a test of its own. */
public final class AskedEdgesTest {
    public static void main(String[] args) throws ReflectiveOperationException {
        Edges.run(AskedEdgesTest.class);
    }

    // ---- 16, 17: comparer, depth

    /** 16: COMPARER k: 10 i + j: with 0 for i, and the greatest wires. */
    static void p16TenIAndJ() {
        SortingNets x = Edges.with("8:01,07,67,16");
        int[] codes = {1, 7, 67, 16};
        int[] layers = {1, 2, 3, 4};
        for (int k = 0; k < codes.length; k++) {
            Check.due("16: comparer " + k, x.comparer(0, k), codes[k]);
            Check.row("16: layer of " + k, x, layers[k]);
        }
    }

    /** 16: the last of sixty. */
    static void p16LastOfSixty() {
        SortingNets x = Edges.with(Edges.pairs(8, 60), Edges.pairs(2, 60));
        Check.due("16: the last of 8 wires", x.comparer(0, 59), 34);
        Check.due("16: the last of 2 wires", x.comparer(1, 59), 1);
        Check.row("16: the last of 2 wires", x, 60);
    }

    /** 16: no such COMPARER. */
    static void p16NoSuchComparer() {
        Edges.refused("16: one beyond", -1, x -> x.comparer(0, 5));
        Edges.refused("16: below 0", -1, x -> x.comparer(0, -1));
        Edges.refused("16: 60", -1, x -> x.comparer(3, 60));
        Edges.refused("16: the least", -1, x -> x.comparer(0, Edges.MIN));
        Edges.refused("16: the greatest", -1, x -> x.comparer(0, Edges.MAX));
        Check.due("16: of none", new SortingNets().comparer(0, 0), -1);
        SortingNets x = Edges.with("4:01,02");
        x.drops(0, 1);
        Check.due("16: one that has gone", x.comparer(0, 1), -1);
    }

    /** 17: DEPTH without COMPARERS; the ROW has no numbers then. */
    static void p17NoComparers() {
        SortingNets x = Edges.with("4:01");
        x.sorts(0);
        x.drops(0, 0);
        Check.due("17: none", x.depth(0), 0);
        Check.row("17: none", x);
    }

    /** 17: the ROW: by LAYERS how many COMPARERS: one layer, and sixty. */
    static void p17OneAndSixtyLayers() {
        SortingNets x = Edges.with("8:01,23,45,67", Edges.pairs(2, 60), Edges.pairs(8, 60));
        Check.due("17: one", x.depth(0), 1);
        Check.row("17: one", x, 4);
        Check.due("17: sixty", x.depth(1), 60);
        Check.due("17: sixty", x.count(0), 60);
        for (int i = 0; i < 60; i++) {
            Check.due("17: one each", x.row(i), 1);
        }
        int depth = x.depth(2);
        long all = 0;
        for (int i = 0; i < depth; i++) {
            all += x.row(i);
        }
        Check.due("17: numbers", x.count(0), depth);
        Check.due("17: all in some layer", all, 60);
        for (int again = 0; again < 2; again++) {
            Check.due("17: sixty again", x.depth(1), 60);
            Check.due("17: the last one again", x.row(59), 1);
        }
        Check.due("17: one again", x.depth(0), 1);
        Check.row("17: nothing is left of others", x, 4);
    }

    // ---- 18, 19: runs, tells

    /** 18: RESULT of a PATTERN: of all noughts and all ones nothing is busy. */
    static void p18NoughtsAndOnes() {
        for (int n = 2; n <= 8; n++) {
            SortingNets x = Edges.with(Edges.pairs(n, 60));
            Check.due("18: noughts of " + n, x.runs(0, 0), 0);
            Check.row("18: noughts of " + n, x, 0);
            Check.due("18: ones of " + n, x.runs(0, (1 << n) - 1), (1 << n) - 1);
            Check.row("18: ones of " + n, x, 0);
        }
    }

    /** 18: no such PATTERN. */
    static void p18NoSuchPattern() {
        Edges.refused("18: 16 of 4 wires", -1, x -> x.runs(0, 16));
        Edges.refused("18: 4 of 2 wires", -1, x -> x.runs(2, 4));
        Edges.refused("18: 256 of 8 wires", -1, x -> x.runs(3, 256));
        Edges.refused("18: below 0", -1, x -> x.runs(0, -1));
        Edges.refused("18: the least", -1, x -> x.runs(3, Edges.MIN));
        Edges.refused("18: the greatest", -1, x -> x.runs(3, Edges.MAX));
    }

    /** 18: a COMPARER that has gone is not BUSY, and changes nothing. */
    static void p18OneThatHasGone() {
        SortingNets x = Edges.with("4:01,23");
        x.drops(0, 1);
        Check.due("18: the last has gone", x.runs(0, 4), 4);
        Check.row("18: the last has gone", x, 0);
        x.drops(0, 0);
        Check.due("18: all have gone", x.runs(0, 1), 1);
        Check.row("18: all have gone", x, 0);
    }

    /** 18: COMPARERS that are BUSY with it, as bits: those above 31, too. */
    static void p18BitsAboveThirtyOne() {
        SortingNets x = new SortingNets();
        for (int at : new int[] {0, 30, 31, 32, 33, 58, 59}) {
            x.makes(0, 8, 0);
            for (int k = 0; k < 60; k++) {
                x.adds(0, k == at ? 0 : 6, 7);
            }
            Check.due("18: busy at " + at, x.runs(0, 1), 128);
            Check.row("18: busy at " + at, x, 1L << at);
        }
    }

    /** 19: n numbers (1 .. 4 digits): the least and the greatest. */
    static void p19OneToFourDigits() {
        SortingNets x = Edges.with("2:01");
        Check.due("19: one digit", Check.tells(x, 0, "9,0"), 1);
        Check.row("19: one digit", x, 0, 9);
        Check.due("19: four digits", Check.tells(x, 0, "9999,1000"), 1);
        Check.row("19: four digits", x, 1000, 9999);
        Check.due("19: one and four", Check.tells(x, 0, "9,1000"), 0);
        Check.row("19: one and four", x, 9, 1000);
        Check.due("19: noughts in front", Check.tells(x, 0, "0010,0009"), 1);
        Check.row("19: noughts in front", x, 9, 10);
        Check.due("19: noughts alone", Check.tells(x, 0, "0000,0"), 0);
        Check.row("19: noughts alone", x, 0, 0);
    }

    private static void cantStand(int s, String text, int p) {
        Edges.refusedReading("19: tells " + s, text, -21 - p, x -> x.tells(s));
    }

    /** 19: (1 .. 4 digits): a fifth can't stand, and none is too few. */
    static void p19FiveDigitsOrNone() {
        cantStand(2, "12345,1", 4);
        cantStand(2, "1,12345", 6);
        cantStand(2, "00001,1", 4);
        cantStand(2, ",1", 0);
        cantStand(2, "1,", 2);
        cantStand(2, "1,,2", 2);
        cantStand(2, "", 0);
    }

    /** 19: n numbers: one less, one more. */
    static void p19AsManyAsWires() {
        for (int n = 2; n <= 8; n++) {
            StringBuilder text = new StringBuilder("7");
            for (int w = 2; w < n; w++) {
                text.append(",7");
            }
            SortingNets x = Edges.with(n + ":");
            Check.due("19: one less than " + n, Check.tells(x, 0, text.toString()), -21 - text.length());
            Check.due("19: and a ,", Check.tells(x, 0, text + ","), -21 - text.length() - 1);
            Check.due("19: " + n, Check.tells(x, 0, text + ",7"), 0);
            Check.due("19: numbers of the row", x.count(0), n);
            Check.due("19: and a ,", Check.tells(x, 0, text + ",7,"), -21 - text.length() - 2);
            Check.due("19: one more than " + n, Check.tells(x, 0, text + ",7,7"), -21 - text.length() - 2);
        }
    }

    /** 19: numbers .. with , between: no other sign. */
    static void p19OtherSigns() {
        cantStand(2, "1;2", 1);
        cantStand(2, "1 ,2", 1);
        cantStand(2, "1, 2", 2);
        cantStand(2, "-1,2", 0);
        cantStand(2, "1,2 ", 3);
        cantStand(2, "1,/", 2);
        cantStand(2, "1,:", 2);
        cantStand(2, "1234;1", 4);
        cantStand(2, "2:01", 1);
    }

    /** 19: on WIRES 0, 1, ..; the ROW: what leaves, by WIRES: without comparers as it comes. */
    static void p19ByWires() {
        SortingNets x = Edges.with("8:");
        Check.due("19: as it comes", Check.tells(x, 0, "8,7,6,5,4,3,2,1"), 0);
        Check.row("19: as it comes", x, 8, 7, 6, 5, 4, 3, 2, 1);
    }

    /** 19: how many COMPARERS are BUSY: all of them at most. */
    static void p19AllAreBusy() {
        SortingNets x = new SortingNets();
        x.makes(0, 8, 1);
        Check.due("19: all", Check.tells(x, 0, "8,7,6,5,4,3,2,1"), 28);
        Check.row("19: all", x, 1, 2, 3, 4, 5, 6, 7, 8);
        Check.due("19: none", Check.tells(x, 0, "1,2,3,4,5,6,7,8"), 0);
    }

    /** 19: how many COMPARERS are BUSY: one that has gone is not. */
    static void p19OneThatHasGone() {
        SortingNets x = Edges.with("4:01,23");
        x.drops(0, 1);
        Check.due("19: the last has gone", Check.tells(x, 0, "2,1,4,3"), 1);
        Check.row("19: the last has gone", x, 1, 2, 4, 3);
    }

    /** 19: NONE (asked first here): before a sign that can't stand. */
    static void p19NoneFirst() {
        for (int s : new int[] {-1, 4, Edges.MIN, Edges.MAX}) {
            Edges.refusedReading("19: tells " + s, "x", -1, x -> x.tells(s));
            Edges.refusedReading("19: tells " + s, "", -1, x -> x.tells(s));
            Edges.refusedReading("19: tells " + s, "1,2", -1, x -> x.tells(s));
        }
    }

    // ---- 20, 21, 22: sorts, image, comes

    /** 20: how many PATTERNS are WRONG, the first of them (NONE). */
    static void p20FirstOrNone() {
        SortingNets x = Edges.with("2:", "2:01", "3:12,01", "8:67");
        Check.due("20: 2:", x.sorts(0), 0);
        Check.row("20: 2:", x, 1, 1);
        Check.due("20: 2:01", x.sorts(1), 1);
        Check.row("20: 2:01", x, 0, -1);
        Check.due("20: 3:12,01", x.sorts(2), 0);
        Check.row("20: 3:12,01", x, 1, 1);
        Check.due("20: 8:67", x.sorts(3), 0);
        // the sorted ones and that with a 1 on wire 6 alone come to be sorted
        Check.row("20: 8:67", x, 246, 1);
    }

    /** 20: the first of them may be above 63, 127, 191: only where wire 0 and these have a 1, and some has a 0. */
    static void p20FirstAboveSixtyThree() {
        wrongOnlyWithOnes(7, 31, 65, 6);
        wrongOnlyWithOnes(8, 63, 65, 6);
        wrongOnlyWithOnes(8, 63, 129, 7);
        wrongOnlyWithOnes(8, 31, 193, 7, 6);
    }

    /** Comparers bring a 0 of those wires to wire 0; all wires above 0 are sorted then. */
    private static void wrongOnlyWithOnes(int n, int wrong, int first, int... wires) {
        SortingNets x = Edges.with(n + ":");
        for (int w : wires) {
            x.adds(0, 0, w);
        }
        for (int r = n - 1; r > 1; r--) {
            for (int w = 1; w < r; w++) {
                x.adds(0, w, w + 1);
            }
        }
        Check.due("20: n " + n + ", first " + first, x.sorts(0), 0);
        Check.row("20: n " + n + ", first " + first, x, wrong, first);
    }

    /** 21: How many PATTERNS the IMAGE has: all without COMPARERS, n + 1 if it sorts. */
    static void p21AllOrTheSorted() {
        for (int n = 2; n <= 8; n++) {
            SortingNets x = Edges.with(n + ":");
            Check.due("21: none of " + n, x.image(0), 1 << n);
            Check.row("21: none of " + n, x, n + 1);
            x.makes(0, n, 2);
            Check.due("21: sorts " + n, x.image(0), n + 1);
            Check.row("21: sorts " + n, x, n + 1);
        }
    }

    /** 22: the first of them (NONE): of a pattern that never leaves. */
    static void p22NeverLeaves() {
        SortingNets x = Edges.with("2:01", "8:07");
        Check.due("22: 1, 0", x.comes(0, 1), 0);
        Check.row("22: 1, 0", x, -1);
        Check.due("22: 1 on the first of 8", x.comes(1, 1), 0);
        Check.row("22: 1 on the first of 8", x, -1);
    }

    /** 22: How many PATTERNS have this RESULT: noughts and ones only themselves; the first of several. */
    static void p22NoughtsAndOnes() {
        for (int n = 2; n <= 8; n++) {
            SortingNets x = new SortingNets();
            x.makes(0, n, 1);
            int all = 1 << n;
            Check.due("22: noughts of " + n, x.comes(0, 0), 1);
            Check.row("22: noughts of " + n, x, 0);
            Check.due("22: ones of " + n, x.comes(0, all - 1), 1);
            Check.row("22: ones of " + n, x, all - 1);
            Check.due("22: one 1 of " + n, x.comes(0, all / 2), n);
            Check.row("22: one 1 of " + n, x, 1);
        }
    }

    /** 22: no such PATTERN. */
    static void p22NoSuchPattern() {
        Edges.refused("22: 16 of 4 wires", -1, x -> x.comes(0, 16));
        Edges.refused("22: 4 of 2 wires", -1, x -> x.comes(2, 4));
        Edges.refused("22: 256 of 8 wires", -1, x -> x.comes(3, 256));
        Edges.refused("22: below 0", -1, x -> x.comes(0, -1));
        Edges.refused("22: the least", -1, x -> x.comes(3, Edges.MIN));
        Edges.refused("22: the greatest", -1, x -> x.comes(3, Edges.MAX));
    }

    // ---- 23, 24: ranks, leaves

    private static void reach(String net, int[] ranks, int[] leaves) {
        SortingNets x = Edges.with(net);
        for (int r = 0; r < ranks.length; r++) {
            Check.due("23: rank " + r + " of " + net, x.ranks(0, r), ranks[r]);
            Check.row("23: rank " + r + " of " + net, x, Integer.bitCount(ranks[r]));
            Check.due("24: wire " + r + " of " + net, x.leaves(0, r), leaves[r]);
            Check.row("24: wire " + r + " of " + net, x, Integer.bitCount(leaves[r]));
        }
    }

    /** 23, 24: r (0: the least, of n unlike things): the least and the greatest, of the fewest wires. */
    static void p23LeastAndGreatest() {
        reach("2:", new int[] {3, 3}, new int[] {3, 3});
        reach("2:01", new int[] {1, 2}, new int[] {1, 2});
        reach("3:01", new int[] {5, 7, 6}, new int[] {3, 6, 7});
        reach("3:12,01", new int[] {1, 6, 6}, new int[] {1, 6, 6});
        reach("4:03,12", new int[] {3, 15, 15, 12}, new int[] {7, 7, 14, 14});
        reach("5:04,13", new int[] {7, 31, 31, 31, 28}, new int[] {15, 15, 31, 30, 30});
    }

    /** 23, 24: the most wires: all of them without COMPARERS, one each if it sorts. */
    static void p23MostWires() {
        SortingNets x = Edges.with("8:", "8:");
        x.makes(1, 8, 3);
        for (int r = 0; r < 8; r++) {
            Check.due("23: without comparers", x.ranks(0, r), 255);
            Check.row("23: without comparers", x, 8);
            Check.due("24: without comparers", x.leaves(0, r), 255);
            Check.row("24: without comparers", x, 8);
            Check.due("23: sorts", x.ranks(1, r), 1 << r);
            Check.row("23: sorts", x, 1);
            Check.due("24: sorts", x.leaves(1, r), 1 << r);
            Check.row("24: sorts", x, 1);
        }
    }

    /** 23: NONE: another r. */
    static void p23AnotherR() {
        Edges.refused("23: 4 of 4", -1, x -> x.ranks(0, 4));
        Edges.refused("23: 2 of 2", -1, x -> x.ranks(2, 2));
        Edges.refused("23: 8 of 8", -1, x -> x.ranks(3, 8));
        Edges.refused("23: below 0", -1, x -> x.ranks(0, -1));
        Edges.refused("23: the least", -1, x -> x.ranks(0, Edges.MIN));
        Edges.refused("23: the greatest", -1, x -> x.ranks(0, Edges.MAX));
    }

    /** 24: no such WIRE. */
    static void p24NoSuchWire() {
        Edges.refused("24: 4 of 4", -1, x -> x.leaves(0, 4));
        Edges.refused("24: 2 of 2", -1, x -> x.leaves(2, 2));
        Edges.refused("24: 8 of 8", -1, x -> x.leaves(3, 8));
        Edges.refused("24: below 0", -1, x -> x.leaves(0, -1));
        Edges.refused("24: the least", -1, x -> x.leaves(0, Edges.MIN));
        Edges.refused("24: the greatest", -1, x -> x.leaves(0, Edges.MAX));
    }

    // ---- 25, 26: orders, merges

    /** 25: -2: n is 8: whether it sorts or not; 7 is asked. */
    static void p25EightWires() {
        Edges.refused("25: sorts", -2, x -> x.orders(3));
        Check.due("25: does not sort", Edges.with("8:").orders(0), -2);
        Check.due("25: seven", Edges.with("7:").orders(0), 5039);
    }

    /** 25: the first such by ranks on WIRES 0, 1, .. (compared from WIRE 0 on). */
    static void p25TheFirstSuch() {
        SortingNets x = Edges.with("2:", "3:12,01", "7:01,12,23,34,45,56", "7:06");
        Check.due("25: 2:", x.orders(0), 1);
        Check.row("25: 2:", x, 1, 0);
        Check.due("25: 3:12,01", x.orders(1), 2);
        Check.row("25: 3:12,01", x, 2, 0, 1);
        Check.due("25: one way up", x.orders(2), 4976);
        Check.row("25: one way up", x, 0, 1, 2, 3, 5, 6, 4);
        Check.due("25: 7:06", x.orders(3), 5038);
        Check.row("25: 7:06", x, 0, 1, 2, 3, 4, 6, 5);
    }

    /** 25: n unlike things: fewer behind more. */
    static void p25FewerBehindMore() {
        SortingNets x = Edges.with("7:", "2:01", "3:01", "4:03,12");
        for (int again = 0; again < 2; again++) {
            Check.due("25: seven", x.orders(0), 5039);
            Check.due("25: two", x.orders(1), 0);
            Check.row("25: two", x);
            Check.due("25: four", x.orders(3), 20);
            Check.row("25: four", x, 0, 1, 3, 2);
            Check.due("25: three", x.orders(2), 4);
            Check.row("25: three", x, 0, 2, 1);
        }
    }

    /** 25: none, if there is none: the ROW has no numbers then. */
    static void p25NoneIfThereIsNone() {
        for (int n = 2; n <= 7; n++) {
            SortingNets x = new SortingNets();
            x.sorts(0);
            x.makes(0, n, 4);
            Check.due("25: sorts " + n, x.orders(0), 0);
            Check.row("25: sorts " + n, x);
        }
    }

    /** 26: WIRES below a (1 .. n - 1): the first and the last a; (a + 1) (n - a + 1) of those. */
    static void p26FirstAndLastA() {
        for (int n = 2; n <= 8; n++) {
            SortingNets x = new SortingNets();
            x.makes(0, n, 0);
            for (int a = 1; a < n; a++) {
                // without comparers all are wrong but the sorted ones
                int all = (a + 1) * (n - a + 1);
                Check.due("26: " + a + " of " + n, x.merges(0, a), all - n - 1);
                Check.row("26: " + a + " of " + n, x, all);
            }
        }
        SortingNets x = Edges.with("3:01", "3:12,01");
        Check.due("26: 3:01", x.merges(0, 1), 1);
        Check.due("26: 3:01", x.merges(0, 2), 2);
        Check.due("26: 3:12,01", x.merges(1, 1), 1);
        Check.due("26: 3:12,01", x.merges(1, 2), 0);
        Check.row("26: 3:12,01", x, 6);
    }

    /** 26: (0: it merges): also one that does not sort. */
    static void p26ItMerges() {
        SortingNets x = Edges.with("8:04,15,26,37,24,35,12,34,56");
        Check.due("26: four and four", x.merges(0, 4), 0);
        Check.row("26: four and four", x, 25);
        Check.due("26: three and five", x.merges(0, 3), 10);
        Check.row("26: three and five", x, 24);
        Check.due("26: though it does not sort", x.sorts(0), 0);
    }

    /** 26: NONE: another a. */
    static void p26AnotherA() {
        Edges.refused("26: 0", -1, x -> x.merges(0, 0));
        Edges.refused("26: 4 of 4", -1, x -> x.merges(0, 4));
        Edges.refused("26: 2 of 2", -1, x -> x.merges(2, 2));
        Edges.refused("26: 8 of 8", -1, x -> x.merges(3, 8));
        Edges.refused("26: below 0", -1, x -> x.merges(0, -1));
        Edges.refused("26: the least", -1, x -> x.merges(0, Edges.MIN));
        Edges.refused("26: the greatest", -1, x -> x.merges(0, Edges.MAX));
    }
}
