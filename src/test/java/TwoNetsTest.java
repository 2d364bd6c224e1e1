/** Promises 33 and 34: two nets. */
public final class TwoNetsTest {
    public static void main(String[] args) {
        same();
        within();
        withinOfMany();
        Check.finish("TwoNetsTest");
    }

    private static void same() {
        SortingNets x = new SortingNets();
        Check.due("33: new ones", x.same(0, 1), 1);
        Check.row("33: new ones", x, 0, -1);
        Check.net(x, 0, "4:01");
        Check.due("33: one comparer", x.same(0, 1), 0);
        Check.row("33: one comparer", x, 4, 1);
        Check.net(x, 1, "4:23");
        Check.due("33: other ones", x.same(0, 1), 0);
        Check.row("33: other ones", x, 7, 1);
        x.makes(0, 8, 1);
        x.makes(1, 8, 4);
        Check.due("33: both sort", x.same(0, 1), 1);
        Check.row("33: both sort", x, 0, -1);
        x.drops(1, 18);
        x.copies(1, 2);
        Check.due("33: with itself", x.same(2, 2), 1);
        Check.due("33: as wrong ones", x.same(0, 1), 0);
        long many = x.row(0);
        long first = x.row(1);
        x.sorts(1);
        Check.row("33: as wrong ones", x, many, first);
        x.makes(2, 8, 0);
        x.adds(2, 6, 7);
        x.makes(3, 8, 0);
        Check.due("33: above pattern 63", x.same(2, 3), 0);
        Check.row("33: above pattern 63", x, 64, 64);
        x.makes(3, 7, 0);
        Check.due("33: other wires", x.same(2, 3), -2);
        Check.due("33: net 4", x.same(4, 3), -1);
        Check.due("33: net 4", x.same(3, 4), -1);
        Check.due("33: net -1", x.same(-1, 3), -1);
        Check.due("33: net -1", x.same(3, -1), -1);
        Check.row("33: row stays", x, 64, 64);
    }

    private static void within() {
        SortingNets x = new SortingNets();
        Check.due("34: new ones", x.within(0, 1), 1);
        Check.row("34: new ones", x, 24);
        Check.net(x, 0, "3:01");
        Check.net(x, 1, "3:12");
        Check.due("34: but for their wires", x.within(0, 1), 1);
        Check.row("34: but for their wires", x, 1);
        x.makes(2, 3, 0);
        Check.due("34: part of all", x.within(0, 2), 1);
        Check.row("34: part of all", x, 6);
        Check.due("34: all is no part", x.within(2, 0), 0);
        Check.row("34: all is no part", x, 0);
        x.makes(3, 3, 1);
        // wire 0 may come to any but the greater one's place, and 1 below 2: one of three orders is lost
        Check.due("34: the sorted ones", x.within(3, 0), 1);
        Check.row("34: the sorted ones", x, 3);
        Check.due("34: with itself", x.within(3, 3), 1);
        Check.row("34: with itself", x, 1);
        x.makes(0, 6, 0);
        x.makes(1, 6, 0);
        Check.due("34: six", x.within(0, 1), 1);
        Check.row("34: six", x, 720);
        x.makes(1, 5, 0);
        Check.due("34: other wires", x.within(0, 1), -2);
        x.makes(0, 7, 0);
        Check.due("34: other wires come first", x.within(0, 1), -2);
        Check.due("34: seven", x.within(0, 0), -3);
        x.makes(1, 8, 0);
        Check.due("34: other wires come first", x.within(0, 1), -2);
        Check.due("34: eight", x.within(1, 1), -3);
        Check.due("34: net 4", x.within(4, 0), -1);
        Check.due("34: net 4", x.within(0, 4), -1);
        Check.due("34: net -1", x.within(-1, 0), -1);
        Check.due("34: net -1", x.within(0, -1), -1);
        Check.row("34: row stays", x, 720);
    }

    /** A net whose wires are renamed has an image that is the same but for them. */
    private static void withinOfMany() {
        String[] crossed = {"5:10,32,21,43,02", "5:41,30,13,24,04", "6:54,10,35,24,02,13"};
        for (String text : crossed) {
            SortingNets x = new SortingNets();
            Check.net(x, 0, text);
            x.copies(0, 1);
            x.mirrors(1);
            x.mirrors(1);
            Check.due("34: " + text, x.within(0, 1), 1);
            Check.due("34: at least itself", x.row(0) >= 1, true);
            x.adds(1, 0, 4);
            x.image(0);
            x.makes(2, x.has(0, 0), 4);
            Check.due("34: sorted within " + text, x.within(2, 0), 1);
        }
    }
}
