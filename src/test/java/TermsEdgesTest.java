/** Each sentence of the document's Terms that names a boundary case: what binds all calls. */
public final class TermsEdgesTest {
    private static final int[] NO_NETS = {-1, 4, Edges.MIN, Edges.MAX};

    private interface NetCall {
        long of(SortingNets x, int s);
    }

    public static void main(String[] args) throws ReflectiveOperationException {
        Edges.run(TermsEdgesTest.class);
    }

    // ---- 1: nets

    private static void noSuchNet(String call, NetCall made) {
        for (int s : NO_NETS) {
            Edges.refused(call + " of net " + s, -1, x -> made.of(x, s));
        }
    }

    /** NETS 0 .. 3: calls that change nets. */
    static void netsThatAreChanged() {
        noSuchNet("makes", (x, s) -> x.makes(s, 4, 1));
        noSuchNet("draws", (x, s) -> x.draws(s, 4, 3, 1));
        noSuchNet("adds", (x, s) -> x.adds(s, 0, 1));
        noSuchNet("drops", (x, s) -> x.drops(s, 0));
        noSuchNet("swaps", (x, s) -> x.swaps(s, 0));
        noSuchNet("copies", (x, s) -> x.copies(s, 0));
        noSuchNet("copies to", (x, s) -> x.copies(0, s));
        noSuchNet("joins", (x, s) -> x.joins(s, 0));
        noSuchNet("joins with", (x, s) -> x.joins(0, s));
        noSuchNet("flips", (x, s) -> x.flips(s));
        noSuchNet("mirrors", (x, s) -> x.mirrors(s));
        noSuchNet("lays", (x, s) -> x.lays(s));
        noSuchNet("cuts", (x, s) -> x.cuts(s, 0, true, 0));
        noSuchNet("cuts to", (x, s) -> x.cuts(0, 0, true, s));
        noSuchNet("thins", (x, s) -> x.thins(s));
    }

    /** NETS 0 .. 3: calls that ask. */
    static void netsThatAreAsked() {
        noSuchNet("comparer", (x, s) -> x.comparer(s, 0));
        noSuchNet("depth", (x, s) -> x.depth(s));
        noSuchNet("runs", (x, s) -> x.runs(s, 0));
        noSuchNet("sorts", (x, s) -> x.sorts(s));
        noSuchNet("image", (x, s) -> x.image(s));
        noSuchNet("comes", (x, s) -> x.comes(s, 0));
        noSuchNet("ranks", (x, s) -> x.ranks(s, 0));
        noSuchNet("leaves", (x, s) -> x.leaves(s, 0));
        noSuchNet("orders", (x, s) -> x.orders(s));
        noSuchNet("merges", (x, s) -> x.merges(s, 1));
        noSuchNet("idle", (x, s) -> x.idle(s));
        noSuchNet("spare", (x, s) -> x.spare(s));
        noSuchNet("broken", (x, s) -> x.broken(s, 0, 0));
        noSuchNet("tests", (x, s) -> x.tests(s));
        noSuchNet("helps", (x, s) -> x.helps(s));
        noSuchNet("same", (x, s) -> x.same(s, 0));
        noSuchNet("same as", (x, s) -> x.same(0, s));
        noSuchNet("within", (x, s) -> x.within(s, 0));
        noSuchNet("within that", (x, s) -> x.within(0, s));
        noSuchNet("rest", (x, s) -> x.rest(s));
        noSuchNet("has", (x, s) -> x.has(s, 0));
    }

    /** NETS 0 .. 3: calls that read the text, which is empty then. */
    static void netsThatAreRead() {
        for (int s : NO_NETS) {
            Edges.refusedReading("net " + s, "4:01", -1, x -> x.net(s));
            Edges.refusedReading("tells " + s, "1,2,3,4", -1, x -> x.tells(s));
        }
    }

    /** NETS 0 .. 3: the first and the last one are nets, each with its own comparers. */
    static void netsAreFour() {
        SortingNets x = new SortingNets();
        for (int s = 0; s <= 3; s++) {
            Check.due("adds " + s, x.adds(s, 0, 1), 1);
            Check.due("adds " + s, x.adds(s, 2, 3), 2);
        }
        for (int s = 0; s <= 3; s++) {
            x.drops(s, 0);
            Check.shape("net " + s, x, s, "4:23");
            Check.due("count(2)", x.count(2), 7 - s);
        }
    }

    /** n WIRES 0 .. n - 1 (n 2 .. 8). */
    static void wiresOfEachNumber() {
        SortingNets x = new SortingNets();
        for (int n = 2; n <= 8; n++) {
            Check.due("net of " + n, Check.net(x, 0, n + ":"), 0);
            Check.due("has", x.has(0, 0), n);
            Check.due("wires 0 and n - 1 of " + n, x.adds(0, 0, n - 1), 1);
            Check.due("no wire n of " + n, x.adds(0, 0, n), -1);
            Check.due("wire n - 1 of " + n, x.leaves(0, n - 1) > 0, true);
            Check.due("no wire n of " + n, x.leaves(0, n), -1);
            Check.due("wire 0 of " + n, x.leaves(0, 0) > 0, true);
            Check.due("no wire -1 of " + n, x.leaves(0, -1), -1);
        }
    }

    /** COMPARERS .. at most 60: in each way in which there could be more. */
    static void sixtyComparers() {
        SortingNets x = new SortingNets();
        Check.due("net", Check.net(x, 0, Edges.pairs(8, 60)), 60);
        Check.due("net of 61", Check.net(x, 1, Edges.pairs(8, 61)), -21 - 181);
        Check.due("draws", x.draws(1, 8, 60, 1), x.sorts(1) == 1 ? 0 : x.row(0));
        Check.due("draws 61", x.draws(1, 8, 61, 1), -1);
        Check.due("adds a 61st", x.adds(0, 0, 1), -1);
        Check.due("joins", x.joins(0, 1), -3);
        x.makes(2, 8, 0);
        Check.due("joins none", x.joins(0, 2), 60);
        Check.due("copies", x.copies(0, 2), 60);
        Check.due("count(2)", x.count(2), 180);
    }

    /** What comes on both leaves with the lesser one on i, the greater one on j. */
    static void lesserOneOnI() {
        SortingNets x = Edges.with("2:01");
        Check.due("0, 0", x.runs(0, 0), 0);
        Check.due("1, 0", x.runs(0, 1), 2);
        Check.due("0, 1", x.runs(0, 2), 2);
        Check.due("1, 1", x.runs(0, 3), 3);
    }

    /** A COMPARER is BUSY where what comes on i is greater than what comes on j: not where they are like. */
    static void busyIfGreater() {
        SortingNets x = Edges.with("2:01");
        long[] busy = {0, 1, 0, 0};
        for (int p = 0; p < 4; p++) {
            x.runs(0, p);
            Check.row("busy with " + p, x, busy[p]);
        }
        Check.due("like ones", Check.tells(x, 0, "7,7"), 0);
        Check.due("like ones, told unlike", Check.tells(x, 0, "07,7"), 0);
        Check.due("one more", Check.tells(x, 0, "8,7"), 1);
        Check.due("one less", Check.tells(x, 0, "6,7"), 0);
    }

    /** At first each NET has 4 WIRES and no COMPARERS. */
    static void atFirst() {
        SortingNets x = new SortingNets();
        for (int s = 0; s <= 3; s++) {
            Check.due("wires of " + s, x.has(s, 0), 4);
            Check.due("comparers of " + s, x.has(s, 1), 0);
            Check.due("no comparer 0 of " + s, x.comparer(s, 0), -1);
        }
    }

    // ---- 1: patterns

    /** PATTERN: a number from 0 to 2^n - 1. */
    static void patternsFromNoughtOn() {
        SortingNets x = new SortingNets();
        for (int n = 2; n <= 8; n++) {
            x.makes(0, n, 0);
            int all = 1 << n;
            Check.due("runs 0 of " + n, x.runs(0, 0), 0);
            Check.due("runs the last of " + n, x.runs(0, all - 1), all - 1);
            Check.due("runs beyond " + n, x.runs(0, all), -1);
            Check.due("runs -1 of " + n, x.runs(0, -1), -1);
            Check.due("comes 0 of " + n, x.comes(0, 0), 1);
            Check.due("comes the last of " + n, x.comes(0, all - 1), 1);
            Check.due("comes beyond " + n, x.comes(0, all), -1);
            Check.due("comes -1 of " + n, x.comes(0, -1), -1);
        }
    }

    /** Bit w is 0 or 1, what is on WIRE w. */
    static void bitsAreWires() {
        SortingNets x = new SortingNets();
        for (int w = 0; w < 7; w++) {
            x.makes(0, 8, 0);
            x.adds(0, w, w + 1);
            Check.due("bit " + w + " moves", x.runs(0, 1 << w), 1 << (w + 1));
            Check.row("bit " + w + " is busy", x, 1);
            Check.due("bit " + (w + 1) + " stays", x.runs(0, 1 << (w + 1)), 1 << (w + 1));
            Check.row("bit " + (w + 1) + " is not", x, 0);
        }
    }

    /** SORTED: no 1 is on a WIRE below one with a 0: so are all noughts and all ones. */
    static void sortedPatterns() {
        SortingNets x = new SortingNets();
        for (int n = 2; n <= 8; n++) {
            x.makes(0, n, 0);
            Check.due("n " + n, x.sorts(0), 0);
            Check.row("n + 1 are sorted of " + n, x, (1 << n) - n - 1, 1);
            x.image(0);
            Check.row("n + 1 are sorted of " + n, x, n + 1);
        }
    }

    /** A NET SORTS if all RESULTS are SORTED: one that is not is too many. */
    static void oneWrongPatternIsEnough() {
        SortingNets x = Edges.with("3:01,12");
        // what is least comes from wire 2 only to wire 1
        Check.due("3:01,12", x.sorts(0), 0);
        Check.row("3:01,12", x, 1, 3);
        x.adds(0, 0, 1);
        Check.due("3:01,12,01", x.sorts(0), 1);
        Check.row("3:01,12,01", x, 0, -1);
    }

    /** IMAGE: the set of all RESULTS: each of them once. */
    static void imageIsASet() {
        SortingNets x = Edges.with("2:01", "2:");
        Check.due("2:01", x.image(0), 3);
        Check.due("2:", x.image(1), 4);
    }

    // ---- 1: layers

    /** LAYERS, from 1 on .. (1, if there is none); DEPTH: the last LAYER (0 without COMPARERS). */
    static void layersFromOneOn() {
        SortingNets x = new SortingNets();
        Check.due("without comparers", x.depth(0), 0);
        Check.row("without comparers", x);
        x.adds(0, 1, 2);
        Check.due("one", x.depth(0), 1);
        Check.row("one", x, 1);
        x.comparer(0, 0);
        Check.row("one", x, 1);
    }

    /** The LAYER behind the last one that has a COMPARER ahead of it with one of its WIRES: either wire, the last. */
    static void layersBehindTheLast() {
        SortingNets x = Edges.with("6:01,01,12,34,23,45,05");
        int[] layers = {1, 2, 3, 1, 4, 2, 3};
        for (int k = 0; k < layers.length; k++) {
            x.comparer(0, k);
            Check.row("layer of " + k, x, layers[k]);
        }
        Check.due("depth", x.depth(0), 4);
        Check.row("depth", x, 2, 2, 2, 1);
    }

    /** Sixty COMPARERS can have sixty LAYERS. */
    static void sixtyLayers() {
        SortingNets x = Edges.with(Edges.pairs(2, 60));
        for (int k = 0; k < 60; k++) {
            x.comparer(0, k);
            Check.row("layer of " + k, x, k + 1);
        }
        Check.due("depth", x.depth(0), 60);
        Check.due("numbers", x.count(0), 60);
    }

    // ---- 1: untangled

    /** x, y are a COMPARER, if x is below y: then nothing moves. */
    static void untangledStays() {
        SortingNets x = new SortingNets();
        Check.due("pair 0, 1", Check.net(x, 0, "2:01"), 1);
        Check.row("pair 0, 1", x, 0, 1);
    }

    /** Else y, x are, and a is at y then, b at x. */
    static void untangledMoves() {
        SortingNets x = new SortingNets();
        Check.due("pair 1, 0", Check.net(x, 0, "2:10"), 1);
        Check.row("pair 1, 0", x, 1, 0);
        Check.shape("pair 1, 0", x, 0, "2:01");
    }

    /** Of a PAIR x is where a is, y where b is: not where they were at first. */
    static void untangledFollows() {
        SortingNets x = new SortingNets();
        Check.due("twice", Check.net(x, 0, "2:10,10"), 2);
        Check.row("twice: stays there", x, 1, 0);
        Check.due("there and back", Check.net(x, 0, "2:10,01"), 2);
        Check.row("there and back", x, 0, 1);
        Check.due("both wires", Check.net(x, 0, "4:30,31,02"), 3);
        // 30: 3 at 0, 0 at 3; 31: at 0, 1; 02: at 3, 2, so 0 at 2 and 2 at 3
        Check.row("both wires", x, 2, 1, 3, 0);
        Check.shape("both wires", x, 0, "4:03,01,23");
    }

    // ---- 1: spare, within

    /** SPARE is a COMPARER of a NET that SORTS: of others none is asked for. */
    static void spareOnlyIfItSorts() {
        Edges.refused("spare", -2, x -> x.spare(1));
        Edges.refused("thins", -2, x -> x.thins(1));
        Edges.refused("tests", -2, x -> x.tests(1));
    }

    /** .. if it SORTS OUT of it, too: each by itself, though not all of them together. */
    static void spareEachByItself() {
        SortingNets x = Edges.with("2:01,01");
        Check.due("both", x.spare(0), 3);
        Check.row("both", x, 2);
    }

    /** One TURNED by a permutation of WIRES: WIRE w comes to that of it. */
    static void turnedByAPermutation() {
        SortingNets x = Edges.with("3:01", "3:02", "3:12");
        for (int s = 0; s < 3; s++) {
            for (int t = 0; t < 3; t++) {
                Check.due(s + " within " + t, x.within(s, t), 1);
                Check.row(s + " within " + t, x, 1);
            }
        }
    }

    /** One is WITHIN another one, if it is a part of that: it may be all of it, and the other need not be a part. */
    static void withinIsAPart() {
        SortingNets x = Edges.with("3:01", "3:01,12");
        Check.due("itself", x.within(0, 0), 1);
        Check.due("less", x.within(1, 0), 1);
        Check.due("more", x.within(0, 1), 0);
        Check.row("more", x, 0);
    }

    // ---- 2: the row

    /** ROW of numbers: at first it has none. */
    static void noRowAtFirst() {
        Check.row("at first", new SortingNets());
    }

    /** Told last by a call that says so: nothing is left of a longer one. */
    static void rowIsToldAnew() {
        SortingNets x = new SortingNets();
        x.rest(0);
        Check.row("rest", x, 1, 23, 2, 13, 12);
        x.sorts(0);
        Check.row("sorts", x, 11, 1);
        x.image(0);
        Check.row("image", x, 5);
        x.depth(0);
        Check.row("depth", x);
        x.same(0, 1);
        Check.row("same", x, 0, -1);
    }

    /** Calls that ask change nothing but the ROW. */
    static void asksChangeNothingElse() {
        Edges.asks("comparer", x -> x.comparer(0, 4), 3);
        Edges.asks("depth", x -> x.depth(0), 2, 2, 1);
        Edges.asks("runs", x -> x.runs(0, 5), 0b10011);
        Edges.asks("sorts", x -> x.sorts(0), 0, -1);
        Edges.asks("image", x -> x.image(0), 5);
        Edges.asks("comes", x -> x.comes(0, 12), 3);
        Edges.asks("ranks", x -> x.ranks(0, 0), 1);
        Edges.asks("leaves", x -> x.leaves(0, 0), 1);
        Edges.asks("orders", x -> x.orders(0));
        Edges.asks("merges", x -> x.merges(0, 2), 9);
        Edges.asks("idle", x -> x.idle(0), 0);
        Edges.asks("spare", x -> x.spare(0), 0);
        Edges.asks("broken", x -> x.broken(0, 0, 1), 2);
        Edges.asks("tests", x -> x.tests(0), 1, 7, 5);
        Edges.asks("helps", x -> x.helps(0), 0);
        Edges.asks("same", x -> x.same(0, 0), 0, -1);
        Edges.asks("within", x -> x.within(0, 0), 1);
        Edges.asks("least", x -> x.least(3), 1, 2, 1);
        Edges.asks("shallow", x -> x.shallow(4), 1, 2, 1);
        Edges.asks("rest", x -> x.rest(0));
        Edges.asks("has", x -> x.has(0, 0), 6, 2);
        Edges.asks("count", x -> x.count(0), 6, 2);
        Edges.asks("row", x -> x.row(1), 6, 2);
    }

    /** The ROW stays .. with calls that do not tell of it. */
    static void rowStaysWithOtherCalls() {
        Edges.keepsRow("sign", x -> x.sign(0));
        Edges.keepsRow("end", x -> x.end(1) ? 1 : -1);
        Edges.keepsRow("makes", x -> x.makes(1, 5, 4));
        Edges.keepsRow("draws", x -> x.draws(1, 5, 4, 3));
        Edges.keepsRow("adds", x -> x.adds(1, 0, 1));
        Edges.keepsRow("drops", x -> x.drops(1, 0));
        Edges.keepsRow("swaps", x -> x.swaps(1, 0));
        Edges.keepsRow("copies", x -> x.copies(0, 1));
        Edges.keepsRow("joins", x -> x.joins(0, 1));
        Edges.keepsRow("flips", x -> x.flips(1));
        Edges.keepsRow("mirrors", x -> x.mirrors(1));
        Edges.keepsRow("lays", x -> x.lays(3));
        Edges.keepsRow("thins", x -> x.thins(3));
        Edges.keepsRow("has", x -> x.has(1, 1));
        Edges.keepsRow("count", x -> x.count(2));
    }

    /** The ROW stays with each answer below 0: also where the call tells of it, and where it throws. */
    static void rowStaysBelowNought() {
        Edges.refusedReading("net", "4:0", -24, x -> x.net(0));
        Edges.refusedReading("tells", "1,2,3", -26, x -> x.tells(0));
        Edges.refused("cuts", -2, x -> x.cuts(2, 0, true, 1));
        Edges.refused("comparer", -1, x -> x.comparer(0, 5));
        Edges.refused("orders", -2, x -> x.orders(3));
        Edges.refused("same", -2, x -> x.same(0, 2));
        Edges.refused("within", -2, x -> x.within(0, 2));
        Edges.refused("within", -3, x -> x.within(3, 3));
        Edges.refused("rest", -2, x -> x.rest(3));
        Edges.refused("row", -1, x -> Check.throwsAt(x, 2) ? -1 : 0);
    }

    // ---- 2: refused calls, the text

    /** Refused calls .. change nothing but THE TEXT, which a call that can read it empties, whatever it answers. */
    static void textIsEmptiedByReaders() {
        String[] texts = {"", "4:01", "1,2,3,4", "4:01,", "1,2,3,", "?", Edges.pairs(8, 60) + ",01"};
        for (String text : texts) {
            for (int s = -1; s <= 4; s++) {
                SortingNets x = new SortingNets();
                Check.net(x, s, text);
                Check.due("net " + s + " of \"" + text + "\"", x.count(1), 0);
                Check.tells(x, s, text);
                Check.due("tells " + s + " of \"" + text + "\"", x.count(1), 0);
            }
        }
    }

    /** Calls that can't read it leave THE TEXT as it is. */
    static void textStaysElse() {
        Edges.refused("sign", -1, x -> {
            x.sign(0);
            for (int k = 0; k < 60; k++) {
                x.sign(0);
            }
            long answer = x.sign(0);
            x.end(7);
            return answer;
        });
        Edges.refused("end", 0, x -> x.end(8) ? 1 : 0);
        Edges.refused("end", 0, x -> x.end(-1) ? 1 : 0);
    }

    /** Of several answers below 0 that fit: -21 - p comes first, then NONE. */
    static void signComesFirst() {
        Edges.refusedReading("net 4", "4:0", -24, x -> x.net(4));
        Edges.refusedReading("net -1", "", -21, x -> x.net(-1));
        Edges.refusedReading("net 4", "4:01", -1, x -> x.net(4));
    }

    /** .. but NONE is asked first in tells. */
    static void noneComesFirstInTells() {
        Edges.refusedReading("tells 4", "", -1, x -> x.tells(4));
        Edges.refusedReading("tells -1", "?", -1, x -> x.tells(-1));
        Edges.refusedReading("tells 0", "?", -21, x -> x.tells(0));
    }

    /** .. then NONE, then the others as they are told. */
    static void noneThenTheOthers() {
        Edges.refused("joins of other wires", -2, x -> x.joins(0, 2));
        Edges.refused("joins of other wires and too many", -2, x -> x.joins(3, 0));
        Edges.refused("joins of too many", -3, x -> x.joins(3, 3));
        Edges.refused("cuts two wires", -2, x -> x.cuts(2, 1, false, 0));
        Edges.refused("cuts no wire of two", -1, x -> x.cuts(2, 2, false, 0));
        Edges.refused("cuts wire -1 of two", -1, x -> x.cuts(2, -1, true, 0));
        Edges.refused("cuts two wires to no net", -1, x -> x.cuts(2, 0, true, 4));
        Edges.refused("within of other wires, above 6", -2, x -> x.within(3, 0));
        Edges.refused("within of other wires, above 6", -2, x -> x.within(0, 3));
        Edges.refused("within above 6", -3, x -> x.within(3, 3));
        Edges.refused("within above 6 and no net", -1, x -> x.within(3, 4));
        Edges.refused("same of no net", -1, x -> x.same(2, 4));
    }

    /** NONE: no such NET, WIRE, COMPARER, PATTERN, too. */
    static void noneOfEachKind() {
        for (int none : new int[] {-1, 4, Edges.MIN, Edges.MAX}) {
            Edges.refused("adds", -1, x -> x.adds(0, none, 3));
            Edges.refused("adds", -1, x -> x.adds(0, 0, none));
            Edges.refused("cuts", -1, x -> x.cuts(0, none, true, 1));
            Edges.refused("leaves", -1, x -> x.leaves(0, none));
        }
        for (int none : new int[] {-1, 5, Edges.MIN, Edges.MAX}) {
            Edges.refused("drops", -1, x -> x.drops(0, none));
            Edges.refused("swaps", -1, x -> x.swaps(0, none));
            Edges.refused("comparer", -1, x -> x.comparer(0, none));
            Edges.refused("broken", -1, x -> x.broken(0, none, 0));
        }
        for (int none : new int[] {-1, 16, Edges.MIN, Edges.MAX}) {
            Edges.refused("runs", -1, x -> x.runs(0, none));
            Edges.refused("comes", -1, x -> x.comes(0, none));
        }
    }

    /** -21 - p: the first sign with which no text as told can begin so far. */
    static void theFirstSignThatCantStand() {
        Edges.refusedReading("net", "4:01x4:04", -25, x -> x.net(0));
        Edges.refusedReading("tells", "1,2x,,", -24, x -> x.tells(0));
        Edges.refusedReading("net", "xx", -21, x -> x.net(0));
    }

    /** p is the number of its signs, if it ends too early. */
    static void textThatEndsTooEarly() {
        String net = "4:01,23";
        int[] nets = {-21, -22, 0, -24, 1, -26, -27, 2};
        for (int p = 0; p < nets.length; p++) {
            Check.due("net " + net.substring(0, p), Check.net(new SortingNets(), 0, net.substring(0, p)), nets[p]);
        }
        String numbers = "1,22,3,4";
        int[] tells = {-21, -22, -23, -24, -25, -26, -27, -28, 0};
        for (int p = 0; p < tells.length; p++) {
            int got = Check.tells(new SortingNets(), 0, numbers.substring(0, p));
            Check.due("tells " + numbers.substring(0, p), got, tells[p]);
        }
    }

    /** An object is used for at most 512 calls: all of them are answered as told. */
    static void fiveHundredAndTwelveCalls() {
        SortingNets x = new SortingNets();
        for (int call = 1; call <= 510; call++) {
            Check.due("adds or drops", call % 2 == 1 ? x.adds(0, 0, 3) : x.drops(0, 0), call % 2);
        }
        Check.due("511th call", x.sorts(0), 0);
        Check.due("512th call", x.row(0), 11);
    }
}
