/** Promises 16 to 26: what nets are. */
public final class WhatTheyAreTest {
    private static final String FOUR = "4:01,23,02,13,12";

    public static void main(String[] args) {
        comparer();
        depth();
        runs();
        tells();
        tellsRefused();
        sorts();
        image();
        comes();
        ranks();
        leaves();
        orders();
        merges();
        sixty();
        rowStaysWhenRefused();
        Check.finish("WhatTheyAreTest");
    }

    private static void comparer() {
        SortingNets x = new SortingNets();
        Check.net(x, 0, "8:67,12,26,07");
        int[] codes = {67, 12, 26, 7};
        int[] layers = {1, 1, 2, 2};
        for (int k = 0; k < 4; k++) {
            Check.due("16: comparer(0, " + k + ")", x.comparer(0, k), codes[k]);
            Check.row("16: layer", x, layers[k]);
        }
        Check.due("16: none such", x.comparer(0, 4), -1);
        Check.due("16: none such", x.comparer(0, -1), -1);
        Check.due("16: net 4", x.comparer(4, 0), -1);
        Check.due("16: net -1", x.comparer(-1, 0), -1);
    }

    private static void depth() {
        SortingNets x = new SortingNets();
        x.sorts(0);
        Check.due("17: without comparers", x.depth(0), 0);
        Check.row("17: without comparers", x);
        Check.net(x, 0, FOUR);
        Check.due("17: depth", x.depth(0), 3);
        Check.row("17: depth", x, 2, 2, 1);
        // 03 is a layer behind 01, though layer 1 has room beside 12
        Check.net(x, 1, "4:01,12,03,23");
        Check.due("17: depth", x.depth(1), 3);
        Check.row("17: depth", x, 1, 2, 1);
        x.draws(2, 2, 60, 0);
        Check.due("17: sixty layers", x.depth(2), 60);
        Check.due("17: sixty layers", x.count(0), 60);
        Check.due("17: sixty layers", x.row(59), 1);
        x.depth(2);
        Check.due("17: sixty layers, asked again", x.row(59), 1);
        Check.due("17: net 4", x.depth(4), -1);
        Check.due("17: net -1", x.depth(-1), -1);
        Check.due("17: row stays", x.count(0), 60);
    }

    private static void runs() {
        SortingNets x = new SortingNets();
        Check.net(x, 0, FOUR);
        Check.due("18: 1010", x.runs(0, 5), 12);
        Check.row("18: busy", x, 0b10011);
        Check.due("18: 0000", x.runs(0, 0), 0);
        Check.row("18: busy", x, 0);
        Check.due("18: 1111", x.runs(0, 15), 15);
        Check.row("18: busy", x, 0);
        Check.due("18: 1000", x.runs(0, 1), 8);
        Check.row("18: busy", x, 0b01001);
        Check.due("18: 16", x.runs(0, 16), -1);
        Check.due("18: -1", x.runs(0, -1), -1);
        Check.due("18: net 4", x.runs(4, 0), -1);
        Check.due("18: net -1", x.runs(-1, 0), -1);
        Check.row("18: row stays", x, 0b01001);
        x.makes(1, 2, 0);
        for (int k = 0; k < 60; k++) {
            x.adds(1, 0, 1);
        }
        x.makes(2, 8, 0);
        for (int k = 0; k < 59; k++) {
            x.adds(2, 0, 1);
        }
        x.adds(2, 6, 7);
        Check.due("18: 255", x.runs(2, 255), 255);
        Check.due("18: the last alone", x.runs(2, 64), 128);
        Check.row("18: bit 59", x, 1L << 59);
        Check.due("18: first alone", x.runs(1, 1), 2);
        Check.row("18: bit 0", x, 1);
        Check.due("18: 4 of two wires", x.runs(1, 4), -1);
    }

    private static void tells() {
        SortingNets x = new SortingNets();
        Check.net(x, 0, FOUR);
        Check.due("19: tells", Check.tells(x, 0, "9,3,1,7"), 4);
        Check.row("19: tells", x, 1, 3, 7, 9);
        Check.due("19: text is empty", x.count(1), 0);
        Check.due("19: long ones", Check.tells(x, 0, "9999,0000,0010,9"), 4);
        Check.row("19: long ones", x, 0, 9, 10, 9999);
        Check.due("19: like ones", Check.tells(x, 0, "5,5,5,5"), 0);
        Check.row("19: like ones", x, 5, 5, 5, 5);
        Check.net(x, 1, "3:02");
        Check.due("19: unsorted", Check.tells(x, 1, "12,7,3"), 1);
        Check.row("19: unsorted", x, 3, 7, 12);
        Check.due("19: unsorted", Check.tells(x, 1, "3,12,7"), 0);
        Check.row("19: unsorted", x, 3, 12, 7);
    }

    private static void tellsRefused() {
        String[] texts = {
            "", ",1,2", "1", "1,", "1,2", "1,2,", "1,2,3,", "1,2,3 ", "12345,1,2", "1,2,12345", "1;2,3", "1,,3", "-1,2,3", "1,a,3", "1,2,:"
        };
        int[] places = {0, 0, 1, 2, 3, 4, 5, 5, 4, 8, 1, 2, 0, 2, 4};
        for (int k = 0; k < texts.length; k++) {
            SortingNets x = new SortingNets();
            x.makes(0, 3, 0);
            x.sorts(0);
            Check.due("19: tells \"" + texts[k] + "\"", Check.tells(x, 0, texts[k]), -21 - places[k]);
            Check.due("19: text is empty", x.count(1), 0);
            Check.due("19: NONE is asked first \"" + texts[k] + "\"", Check.tells(x, 4, texts[k]), -1);
            Check.due("19: text is empty", x.count(1), 0);
            Check.due("19: net -1", Check.tells(x, -1, "1,2,3"), -1);
            Check.row("19: row stays", x, 4, 1);
        }
    }

    private static void sorts() {
        SortingNets x = new SortingNets();
        Check.due("20: without comparers", x.sorts(0), 0);
        Check.row("20: without comparers", x, 11, 1);
        Check.net(x, 0, FOUR);
        Check.due("20: sorts", x.sorts(0), 1);
        Check.row("20: sorts", x, 0, -1);
        x.drops(0, 4);
        // with a 1 in each of the first two pairs, wires 1 and 3 have them then
        Check.due("20: without the last one", x.sorts(0), 0);
        Check.row("20: without the last one", x, 4, 5);
        x.makes(1, 8, 4);
        Check.due("20: eight", x.sorts(1), 1);
        x.makes(1, 8, 0);
        x.adds(1, 0, 7);
        Check.due("20: eight", x.sorts(1), 0);
        Check.row("20: eight", x, 256 - 2 - 2 * 7, 2);
        Check.due("20: net 4", x.sorts(4), -1);
        Check.due("20: net -1", x.sorts(-1), -1);
    }

    private static void image() {
        SortingNets x = new SortingNets();
        Check.due("21: without comparers", x.image(0), 16);
        Check.row("21: without comparers", x, 5);
        x.adds(0, 0, 1);
        Check.due("21: one comparer", x.image(0), 12);
        Check.row("21: one comparer", x, 5);
        x.adds(0, 2, 3);
        Check.due("21: two comparers", x.image(0), 9);
        x.makes(1, 8, 0);
        Check.due("21: eight wires", x.image(1), 256);
        Check.row("21: eight wires", x, 9);
        x.makes(1, 8, 4);
        Check.due("21: one that sorts", x.image(1), 9);
        Check.row("21: one that sorts", x, 9);
        Check.due("21: net 4", x.image(4), -1);
        Check.due("21: net -1", x.image(-1), -1);
    }

    private static void comes() {
        SortingNets x = new SortingNets();
        Check.due("22: without comparers", x.comes(0, 9), 1);
        Check.row("22: without comparers", x, 9);
        Check.net(x, 0, FOUR);
        int[] many = {1, 4, 6, 4, 1};
        int[] sorted = {0, 8, 12, 14, 15};
        int[] first = {0, 1, 3, 7, 15};
        for (int ones = 0; ones <= 4; ones++) {
            Check.due("22: comes(0, " + sorted[ones] + ")", x.comes(0, sorted[ones]), many[ones]);
            Check.row("22: first", x, first[ones]);
        }
        Check.due("22: unsorted", x.comes(0, 1), 0);
        Check.row("22: unsorted", x, -1);
        Check.due("22: 16", x.comes(0, 16), -1);
        Check.due("22: -1", x.comes(0, -1), -1);
        Check.due("22: net 4", x.comes(4, 0), -1);
        Check.due("22: net -1", x.comes(-1, 0), -1);
        x.makes(1, 8, 1);
        Check.due("22: four of eight", x.comes(1, 0xF0), 70);
        Check.row("22: four of eight", x, 0x0F);
    }

    private static void ranks() {
        SortingNets x = new SortingNets();
        for (int r = 0; r < 4; r++) {
            Check.due("23: without comparers", x.ranks(0, r), 15);
            Check.row("23: without comparers", x, 4);
        }
        Check.net(x, 0, "4:01,23");
        long[] wires = {0b0101, 0b1111, 0b1111, 0b1010};
        for (int r = 0; r < 4; r++) {
            Check.due("23: ranks(0, " + r + ")", x.ranks(0, r), wires[r]);
            Check.row("23: how many", x, Long.bitCount(wires[r]));
        }
        Check.net(x, 1, "3:01,12");
        Check.due("23: the least", x.ranks(1, 0), 0b011);
        Check.due("23: the middle one", x.ranks(1, 1), 0b011);
        Check.due("23: the greatest", x.ranks(1, 2), 0b100);
        Check.row("23: how many", x, 1);
        Check.due("23: rank 3", x.ranks(1, 3), -1);
        Check.due("23: rank -1", x.ranks(1, -1), -1);
        Check.due("23: net 4", x.ranks(4, 0), -1);
        Check.due("23: net -1", x.ranks(-1, 0), -1);
        Check.row("23: row stays", x, 1);
        x.makes(2, 8, 4);
        for (int r = 0; r < 8; r++) {
            Check.due("23: eight sorted", x.ranks(2, r), 1 << r);
        }
    }

    private static void leaves() {
        SortingNets x = new SortingNets();
        Check.due("24: without comparers", x.leaves(0, 2), 15);
        Check.row("24: without comparers", x, 4);
        Check.net(x, 0, "4:01,23");
        Check.due("24: wire 0", x.leaves(0, 0), 0b0111);
        Check.row("24: how many", x, 3);
        Check.due("24: wire 3", x.leaves(0, 3), 0b1110);
        Check.net(x, 1, "3:01,12");
        Check.due("24: wire 0", x.leaves(1, 0), 0b011);
        Check.due("24: wire 1", x.leaves(1, 1), 0b011);
        Check.row("24: how many", x, 2);
        Check.due("24: wire 2", x.leaves(1, 2), 0b100);
        Check.due("24: wire 3", x.leaves(1, 3), -1);
        Check.due("24: wire -1", x.leaves(1, -1), -1);
        Check.due("24: net 4", x.leaves(4, 0), -1);
        Check.due("24: net -1", x.leaves(-1, 0), -1);
        Check.row("24: row stays", x, 1);
    }

    private static void orders() {
        SortingNets x = new SortingNets();
        Check.due("25: without comparers", x.orders(0), 23);
        Check.row("25: without comparers", x, 0, 1, 3, 2);
        Check.net(x, 0, FOUR);
        Check.due("25: sorts", x.orders(0), 0);
        Check.row("25: sorts", x);
        Check.net(x, 1, "3:01,12");
        Check.due("25: least on wire 2", x.orders(1), 2);
        Check.row("25: least on wire 2", x, 1, 2, 0);
        x.makes(2, 7, 0);
        Check.due("25: seven", x.orders(2), 5039);
        Check.row("25: seven", x, 0, 1, 2, 3, 4, 6, 5);
        x.makes(2, 7, 4);
        Check.due("25: seven sorted", x.orders(2), 0);
        Check.row("25: seven sorted", x);
        x.makes(2, 2, 0);
        Check.due("25: two", x.orders(2), 1);
        Check.row("25: two", x, 1, 0);
        x.makes(2, 8, 0);
        Check.due("25: eight", x.orders(2), -2);
        Check.row("25: row stays", x, 1, 0);
        Check.due("25: net 4", x.orders(4), -1);
        Check.due("25: net -1", x.orders(-1), -1);
    }

    private static void merges() {
        SortingNets x = new SortingNets();
        Check.due("26: without comparers", x.merges(0, 2), 4);
        Check.row("26: without comparers", x, 9);
        Check.due("26: one and three", x.merges(0, 1), 3);
        Check.row("26: one and three", x, 8);
        Check.due("26: three and one", x.merges(0, 3), 3);
        Check.row("26: three and one", x, 8);
        Check.net(x, 0, "4:02,13,12");
        Check.due("26: merges", x.merges(0, 2), 0);
        Check.row("26: merges", x, 9);
        Check.due("26: a 0", x.merges(0, 0), -1);
        Check.due("26: a 4", x.merges(0, 4), -1);
        Check.due("26: a -1", x.merges(0, -1), -1);
        Check.due("26: net 4", x.merges(4, 1), -1);
        Check.due("26: net -1", x.merges(-1, 1), -1);
        Check.row("26: row stays", x, 9);
        Check.net(x, 1, "8:04,15,26,37,24,35,12,34,56");
        Check.due("26: four and four", x.merges(1, 4), 0);
        Check.row("26: four and four", x, 25);
        x.drops(1, 8);
        Check.due("26: without 56", x.merges(1, 4) > 0, true);
    }

    /** A net of ten comparers that sorts, six times. */
    private static void sixty() {
        SortingNets x = new SortingNets();
        x.makes(0, 5, 1);
        x.copies(0, 1);
        for (int k = 0; k < 5; k++) {
            x.joins(0, 1);
        }
        Check.due("sixty", x.has(0, 1), 60);
        Check.due("16: sixty", x.comparer(0, 59), 1);
        Check.due("18: sixty", x.runs(0, 0b00111), 0b11100);
        Check.due("19: sixty", Check.tells(x, 0, "5,4,3,2,1"), 10);
        Check.row("19: sixty", x, 1, 2, 3, 4, 5);
        Check.due("20: sixty", x.sorts(0), 1);
        Check.due("21: sixty", x.image(0), 6);
        Check.due("22: sixty", x.comes(0, 0b11000), 10);
        Check.due("23: sixty", x.ranks(0, 4), 16);
        Check.due("24: sixty", x.leaves(0, 4), 16);
        Check.due("25: sixty", x.orders(0), 0);
        Check.due("26: sixty", x.merges(0, 2), 0);
    }

    private static void rowStaysWhenRefused() {
        SortingNets x = new SortingNets();
        x.sorts(0);
        for (int s = -1; s <= 4; s += 5) {
            x.comparer(s, 0);
            x.depth(s);
            x.runs(s, 0);
            x.tells(s);
            x.sorts(s);
            x.image(s);
            x.comes(s, 0);
            x.ranks(s, 0);
            x.leaves(s, 0);
            x.orders(s);
            x.merges(s, 1);
            Check.row("16 to 26: row stays", x, 11, 1);
        }
        x.comparer(0, 0);
        x.tells(0);
        x.has(0, 0);
        x.count(0);
        x.sign(0);
        x.end(0);
        x.adds(0, 0, 1);
        Check.row("16 to 26: row stays", x, 11, 1);
    }
}
