/** Promises 35 to 40: each sentence that names a boundary case has a test of its own. */
public final class FewEdgesTest {
    public static void main(String[] args) throws ReflectiveOperationException {
        Edges.run(FewEdgesTest.class);
    }

    // ---- 35, 36: least, shallow

    /** 35: n (1 .. 5): of one WIRE no step is made, and the ROW has no numbers. */
    static void p35OneWire() {
        SortingNets x = new SortingNets();
        x.sorts(0);
        Check.due("35: one", x.least(1), 0);
        Check.row("35: one", x);
    }

    /** 35: n (1 .. 5): each of the others; Steps are made till one KEPT has n + 1 PATTERNS. */
    static void p35OtherWires() {
        SortingNets x = new SortingNets();
        Check.due("35: five", x.least(5), 9);
        Check.row("35: five", x, 1, 3, 6, 11, 10, 7, 6, 4, 1);
        Check.due("35: two", x.least(2), 1);
        Check.row("35: two", x, 1);
        Check.due("35: four", x.least(4), 5);
        Check.row("35: four", x, 1, 3, 4, 2, 1);
        Check.due("35: three", x.least(3), 3);
        Check.row("35: three", x, 1, 2, 1);
    }

    /** 35: NONE: another n. */
    static void p35AnotherN() {
        for (int n : new int[] {0, 6, -1, 8, 32, Edges.MIN, Edges.MAX}) {
            Edges.refused("35: n " + n, -1, x -> x.least(n));
        }
    }

    /** 36: Likewise: of one WIRE no step is made. */
    static void p36OneWire() {
        SortingNets x = new SortingNets();
        x.sorts(0);
        Check.due("36: one", x.shallow(1), 0);
        Check.row("36: one", x);
    }

    /** 36: Likewise, but with LAYERS: one COMPARER at least, and more where they have no common WIRE. */
    static void p36OtherWires() {
        SortingNets x = new SortingNets();
        Check.due("36: five", x.shallow(5), 5);
        Check.row("36: five", x, 1, 6, 7, 2, 1);
        Check.due("36: two", x.shallow(2), 1);
        Check.row("36: two", x, 1);
        Check.due("36: four", x.shallow(4), 3);
        Check.row("36: four", x, 1, 2, 1);
        Check.due("36: three", x.shallow(3), 3);
        Check.row("36: three", x, 1, 2, 1);
    }

    /** 36: NONE: another n. */
    static void p36AnotherN() {
        for (int n : new int[] {0, 6, -1, 8, 32, Edges.MIN, Edges.MAX}) {
            Edges.refused("36: n " + n, -1, x -> x.shallow(n));
        }
    }

    /** 35, 36: one call leaves nothing behind for the next. */
    static void p36TheSameAgain() {
        SortingNets x = new SortingNets();
        for (int again = 0; again < 3; again++) {
            Check.due("36: shallow", x.shallow(5), 5);
            Check.due("35: least", x.least(4), 5);
            Check.row("35: least", x, 1, 3, 4, 2, 1);
            Check.due("36: shallow", x.shallow(4), 3);
            Check.due("35: least", x.least(5), 9);
            Check.row("35: least", x, 1, 3, 6, 11, 10, 7, 6, 4, 1);
        }
    }

    // ---- 37: rest

    private static void rested(String net, long... codes) {
        SortingNets x = Edges.with(net);
        Check.due("37: rest of " + net, x.rest(0), codes.length);
        Check.row("37: rest of " + net, x, codes);
        Check.shape("37: none comes", x, 0, net);
    }

    /** 37: The fewest COMPARERS that must come: none, if it sorts; the ROW has no numbers then. */
    static void p37None() {
        rested("2:01");
        rested("3:01,12,01");
        rested(Edges.FOUR);
    }

    /** 37: .. all, if there are none; of as many the first, compared from the first one on by these numbers. */
    static void p37All() {
        rested("2:", 1);
        rested("3:", 1, 2, 12);
        rested("4:", 1, 23, 2, 13, 12);
    }

    /** 37: .. of as many the first: behind some. */
    static void p37TheFirst() {
        rested("4:03,12", 1, 23, 12);
        rested("4:12", 3, 1, 23, 12);
        rested("4:01", 23, 2, 13, 12);
        rested("3:12", 1, 12);
    }

    /** 37: sixty are not too many: it is asked only. */
    static void p37Sixty() {
        SortingNets x = Edges.with(Edges.pairs(2, 60), "4:");
        Check.due("37: sixty that sort", x.rest(0), 0);
        Check.row("37: sixty that sort", x);
        for (int k = 0; k < 60; k++) {
            x.adds(1, 0, 1);
        }
        Check.due("37: sixty that do not", x.rest(1), 4);
        Check.row("37: sixty that do not", x, 23, 2, 13, 12);
    }

    /** 37: -2: n is above 4: whether it sorts or not. */
    static void p37AboveFour() {
        Edges.refused("37: eight", -2, x -> x.rest(3));
        for (int n = 5; n <= 8; n++) {
            SortingNets x = Edges.with(n + ":", n + ":");
            x.makes(1, n, 4);
            Check.due("37: none of " + n, x.rest(0), -2);
            Check.due("37: sorts " + n, x.rest(1), -2);
        }
    }

    // ---- 38, 39, 40: has, count, row

    /** 38: What 0: n, 1: COMPARERS: the fewest and the most. */
    static void p38FewestAndMost() {
        SortingNets x = Edges.with("2:", Edges.pairs(8, 60));
        Check.due("38: fewest wires", x.has(0, 0), 2);
        Check.due("38: no comparers", x.has(0, 1), 0);
        Check.due("38: most wires", x.has(1, 0), 8);
        Check.due("38: sixty", x.has(1, 1), 60);
    }

    /** 38: NONE: another what, too. */
    static void p38AnotherWhat() {
        for (int what : new int[] {-1, 2, Edges.MIN, Edges.MAX}) {
            Edges.refused("38: what " + what, -1, x -> x.has(0, what));
            Edges.refused("38: what " + what + " of no net", -1, x -> x.has(4, what));
        }
    }

    /** 39: What 0: numbers of the ROW: none, one, sixty. */
    static void p39NumbersOfTheRow() {
        SortingNets x = Edges.with("4:01");
        x.image(0);
        Check.due("39: one", x.count(0), 1);
        x.makes(0, 4, 0);
        x.depth(0);
        Check.due("39: none", x.count(0), 0);
        Check.net(x, 0, Edges.pairs(2, 60));
        x.depth(0);
        Check.due("39: sixty", x.count(0), 60);
    }

    /** 39: 1: signs of THE TEXT: none, and 200. */
    static void p39SignsOfTheText() {
        SortingNets x = new SortingNets();
        Check.due("39: none", x.count(1), 0);
        for (int k = 0; k < 60; k++) {
            x.sign(k);
        }
        Check.due("39: 200", x.count(1), 200);
        x.net(0);
        Check.due("39: none again", x.count(1), 0);
    }

    /** 39: 2: COMPARERS of all NETS: none, and 240. */
    static void p39ComparersOfAll() {
        SortingNets x = new SortingNets();
        Check.due("39: none", x.count(2), 0);
        for (int s = 0; s <= 3; s++) {
            x.draws(s, 8, 60, s);
        }
        Check.due("39: all full", x.count(2), 240);
        x.drops(3, 0);
        Check.due("39: one less", x.count(2), 239);
    }

    /** 39: NONE for another what. */
    static void p39AnotherWhat() {
        for (int what : new int[] {-1, 3, Edges.MIN, Edges.MAX}) {
            Edges.refused("39: what " + what, -1, x -> x.count(what));
        }
    }

    /** 40: NoSuchElementException: none such: below 0, one beyond, far off; the ROW stays. */
    static void p40NoneSuch() {
        for (int i : new int[] {-1, 2, Edges.MIN, Edges.MAX}) {
            Edges.refused("40: row " + i, 1, x -> Check.throwsAt(x, i) ? 1 : 0);
        }
    }

    /** 40: .. of an empty ROW each number is none such. */
    static void p40OfNone() {
        SortingNets x = new SortingNets();
        for (int i : new int[] {0, 1, -1, 60, 63, 64}) {
            Check.due("40: row " + i + " at first", Check.throwsAt(x, i), true);
        }
        x.sorts(0);
        x.depth(0);
        Check.due("40: row 0 of none", Check.throwsAt(x, 0), true);
    }

    /** 40: .. of a shorter ROW what a longer one had is none such. */
    static void p40OfAShorterOne() {
        SortingNets x = Edges.with(Edges.pairs(2, 60));
        x.depth(0);
        Check.due("40: the last of sixty", x.row(59), 1);
        Check.due("40: one beyond sixty", Check.throwsAt(x, 60), true);
        x.image(0);
        Check.due("40: the only one", x.row(0), 3);
        Check.due("40: one that has gone", Check.throwsAt(x, 1), true);
        Check.due("40: one that has gone", Check.throwsAt(x, 59), true);
    }

    /** 40: Number i of the ROW is a long: bits above 31, too, and NONE where it is told. */
    static void p40LongNumbers() {
        SortingNets x = new SortingNets();
        x.makes(0, 8, 0);
        for (int k = 0; k < 60; k++) {
            x.adds(0, k < 59 ? 6 : 0, k < 59 ? 7 : 1);
        }
        x.runs(0, 0b01000001);
        Check.row("40: bits 0 and 59", x, (1L << 59) | 1);
        x.same(0, 0);
        Check.row("40: NONE", x, 0, -1);
    }
}
