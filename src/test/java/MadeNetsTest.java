/** Promises 1 to 15: nets that are told, made. */
public final class MadeNetsTest {
    private static final String FOUR = "4:01,23,02,13,12";

    public static void main(String[] args) {
        newObject();
        sign();
        end();
        netRead();
        netUntangled();
        netRefused();
        netOfSixty();
        makes();
        makesByMergeExchange();
        makesRefused();
        draws();
        adds();
        drops();
        swaps();
        copies();
        joins();
        flips();
        mirrors();
        lays();
        cuts();
        cutsRefused();
        sixty();
        Check.finish("MadeNetsTest");
    }

    private static void newObject() {
        SortingNets x = new SortingNets();
        Check.due("NONE", SortingNets.NONE, -1);
        for (int s = 0; s < 4; s++) {
            Check.due("1: has(" + s + ", 0)", x.has(s, 0), 4);
            Check.due("1: has(" + s + ", 1)", x.has(s, 1), 0);
        }
        Check.due("1: has(4, 0)", x.has(4, 0), -1);
        Check.due("1: has(-1, 0)", x.has(-1, 0), -1);
        Check.due("1: count(1)", x.count(1), 0);
        Check.due("1: count(2)", x.count(2), 0);
        Check.row("1", x);
    }

    private static void sign() {
        SortingNets x = new SortingNets();
        Check.due("2: sign 2:01", x.sign('2' << 24 | ':' << 16 | '0' << 8 | '1'), 4);
        Check.due("2: net", x.net(0), 1);
        Check.due("2: comparer", x.comparer(0, 0), 1);
        for (int k = 1; k <= 50; k++) {
            Check.due("2: sign " + k, x.sign(-1), 4 * k);
        }
        Check.due("2: sign beyond 200", x.sign(0), -1);
        Check.due("2: count(1)", x.count(1), 200);
        Check.due("2: end(197)", x.end(197), true);
        Check.due("2: sign to 201", x.sign(0), -1);
        Check.due("2: end(196)", x.end(196), true);
        Check.due("2: sign to 200", x.sign(0), 200);
    }

    private static void end() {
        SortingNets x = new SortingNets();
        Check.due("3: end(0) of none", x.end(0), true);
        Check.due("3: end(1) of none", x.end(1), false);
        x.sign(0);
        Check.due("3: end(5)", x.end(5), false);
        Check.due("3: end(-1)", x.end(-1), false);
        Check.due("3: count(1) when refused", x.count(1), 4);
        Check.due("3: end(4)", x.end(4), true);
        Check.due("3: end(3)", x.end(3), true);
        Check.due("3: count(1)", x.count(1), 3);
        Check.due("3: end(4) then", x.end(4), false);
        Check.due("3: end(MIN)", x.end(Integer.MIN_VALUE), false);
    }

    private static void netRead() {
        SortingNets x = new SortingNets();
        Check.due("4: net", Check.net(x, 0, FOUR), 5);
        Check.row("4: net", x, 0, 1, 2, 3);
        Check.due("4: text is empty", x.count(1), 0);
        Check.shape("4: net", x, 0, FOUR);
        Check.due("4: net without pairs", Check.net(x, 3, "8:"), 0);
        Check.row("4: net without pairs", x, 0, 1, 2, 3, 4, 5, 6, 7);
        Check.shape("4: net without pairs", x, 3, "8:");
        Check.due("4: least net", Check.net(x, 1, "2:10"), 1);
        Check.row("4: least net", x, 1, 0);
        Check.shape("4: least net", x, 1, "2:01");
    }

    private static void netUntangled() {
        SortingNets x = new SortingNets();
        Check.due("4: crossed", Check.net(x, 2, "3:10,21,10"), 3);
        Check.row("4: crossed", x, 2, 1, 0);
        Check.shape("4: crossed", x, 2, "3:01,02,12");
        // behind 20, wire 2 is at 0 and wire 0 at 2; 01 then is at 2, 1, which crosses again
        Check.due("4: crossed twice", Check.net(x, 2, "4:20,01,03"), 3);
        Check.row("4: crossed twice", x, 1, 2, 0, 3);
        Check.shape("4: crossed twice", x, 2, "4:02,12,13");
    }

    private static void netRefused() {
        String[] texts = {
            "", "1:", "9:01", "x:01", "4", "4;01", "4:0", "4:00", "4:04", "4:40", "4: 01", "4:01,",
            "4:01 ", "4:012", "4:01,2", "4:01,22", "4:01,,23", "4:01;23", ":01", "2:02", "8:78", "8:67,", "4:/1", "4:0:"
        };
        int[] places = {0, 0, 0, 0, 1, 1, 3, 3, 3, 2, 2, 5, 4, 4, 6, 6, 5, 4, 0, 3, 3, 5, 2, 3};
        for (int k = 0; k < texts.length; k++) {
            SortingNets x = new SortingNets();
            x.sorts(0);
            x.adds(1, 0, 1);
            Check.due("4: net \"" + texts[k] + "\"", Check.net(x, 1, texts[k]), -21 - places[k]);
            Check.due("4: text is empty", x.count(1), 0);
            Check.due("4: sign before NONE \"" + texts[k] + "\"", Check.net(x, 4, texts[k]), -21 - places[k]);
            Check.row("4: row stays", x, 11, 1);
            Check.due("4: net stays", x.has(1, 0), 4);
            Check.due("4: net stays", x.has(1, 1), 1);
        }
        SortingNets x = new SortingNets();
        x.sorts(0);
        Check.due("4: no such net", Check.net(x, 4, "5:01"), -1);
        Check.due("4: text is empty", x.count(1), 0);
        Check.due("4: no such net", Check.net(x, -1, "5:01"), -1);
        Check.row("4: row stays", x, 11, 1);
        Check.due("4: count(2)", x.count(2), 0);
        x.sign('4' << 24 | ':' << 16 | '0' << 8 | 177);
        Check.due("4: sign above 127", x.net(0), -24);
    }

    private static void netOfSixty() {
        StringBuilder pairs = new StringBuilder("8:01");
        for (int k = 1; k < 60; k++) {
            pairs.append(",67");
        }
        SortingNets x = new SortingNets();
        Check.due("4: sixty", Check.net(x, 0, pairs.toString()), 60);
        Check.due("4: sixty and ,", Check.net(x, 0, pairs + ","), -21 - 181);
        Check.due("4: sixty-one", Check.net(x, 0, pairs + ",01"), -21 - 181);
        Check.due("4: sixty and a digit", Check.net(x, 0, pairs + "0"), -21 - 181);
    }

    private static void makes() {
        SortingNets x = new SortingNets();
        x.sorts(0);
        Check.due("5: way 0", x.makes(0, 8, 0), 0);
        Check.shape("5: way 0", x, 0, "8:");
        Check.due("5: way 1", x.makes(1, 4, 1), 6);
        Check.shape("5: way 1", x, 1, "4:01,12,23,01,12,01");
        Check.due("5: way 2", x.makes(2, 4, 2), 6);
        Check.shape("5: way 2", x, 2, "4:01,12,01,23,12,01");
        Check.due("5: way 3", x.makes(3, 4, 3), 6);
        Check.shape("5: way 3", x, 3, "4:01,23,12,01,23,12");
        x.sorts(0);
        for (int way = 1; way <= 4; way++) {
            Check.due("5: two wires by way " + way, x.makes(0, 2, way), 1);
            Check.row("5: row stays", x, 247, 1);
            Check.shape("5: two wires", x, 0, "2:01");
            x.makes(0, 8, 0);
            x.sorts(0);
        }
        for (int n = 2; n <= 8; n++) {
            for (int way = 1; way <= 4; way++) {
                int many = x.makes(0, n, way);
                Check.due("5: has", x.has(0, 1), many);
                Check.due("5: sorts " + n + " by way " + way, x.sorts(0), 1);
                if (way < 4) {
                    Check.due("5: how many of " + n + " by way " + way, many, n * (n - 1) / 2);
                }
            }
        }
    }

    private static void makesByMergeExchange() {
        int[] sizes = {1, 3, 5, 9, 12, 16, 19};
        SortingNets x = new SortingNets();
        for (int n = 2; n <= 8; n++) {
            Check.due("5: way 4 of " + n, x.makes(0, n, 4), sizes[n - 2]);
        }
        x.makes(0, 5, 4);
        Check.shape("5: way 4 of 5", x, 0, "5:04,02,13,24,01,23,14,12,34");
        x.makes(0, 4, 4);
        Check.shape("5: way 4 of 4", x, 0, "4:02,13,01,23,12");
    }

    private static void makesRefused() {
        SortingNets x = new SortingNets();
        x.adds(0, 1, 3);
        Check.due("5: one wire", x.makes(0, 1, 1), -1);
        Check.due("5: nine wires", x.makes(0, 9, 1), -1);
        Check.due("5: way 5", x.makes(0, 4, 5), -1);
        Check.due("5: way -1", x.makes(0, 4, -1), -1);
        Check.due("5: net 4", x.makes(4, 4, 1), -1);
        Check.due("5: net -1", x.makes(-1, 4, 1), -1);
        Check.shape("5: refused", x, 0, "4:13");
    }

    private static void draws() {
        SortingNets x = new SortingNets();
        Check.due("6: draws", x.draws(3, 4, 3, 3), 6);
        Check.shape("6: draws", x, 3, "4:03,12,12");
        Check.due("6: none", x.draws(0, 5, 0, 99), 32 - 6);
        Check.shape("6: none", x, 0, "5:");
        Check.due("6: two wires", x.draws(1, 2, 60, -7), 0);
        Check.due("6: how many", x.has(1, 1), 60);
        Check.due("6: all 01", x.comparer(1, 59), 1);
        x.sorts(0);
        x.draws(2, 8, 60, Integer.MIN_VALUE);
        Check.row("6: row stays", x, 26, 1);
        int state = Integer.MIN_VALUE;
        for (int k = 0; k < 60; k++) {
            state = state * 1103515245 + 12345;
            int a = (int) (Integer.toUnsignedLong(state) / 65536 % 8);
            state = state * 1103515245 + 12345;
            int b = (int) (Integer.toUnsignedLong(state) / 65536 % 7);
            b += b >= a ? 1 : 0;
            Check.due("6: comparer " + k, x.comparer(2, k), 10 * Math.min(a, b) + Math.max(a, b));
        }
        Check.due("6: 61", x.draws(2, 8, 61, 0), -1);
        Check.due("6: -1", x.draws(2, 8, -1, 0), -1);
        Check.due("6: one wire", x.draws(2, 1, 3, 0), -1);
        Check.due("6: nine wires", x.draws(2, 9, 3, 0), -1);
        Check.due("6: net 4", x.draws(4, 4, 3, 0), -1);
        Check.due("6: net -1", x.draws(-1, 4, 3, 0), -1);
        Check.due("6: refused", x.has(2, 1), 60);
    }

    private static void adds() {
        SortingNets x = new SortingNets();
        Check.due("7: adds", x.adds(0, 0, 3), 1);
        Check.due("7: adds", x.adds(0, 2, 3), 2);
        Check.due("7: alike", x.adds(0, 1, 1), -1);
        Check.due("7: j below i", x.adds(0, 2, 1), -1);
        Check.due("7: i below 0", x.adds(0, -1, 1), -1);
        Check.due("7: j is no wire", x.adds(0, 0, 4), -1);
        Check.due("7: net 4", x.adds(4, 0, 1), -1);
        Check.due("7: net -1", x.adds(-1, 0, 1), -1);
        Check.shape("7: adds", x, 0, "4:03,23");
        for (int k = 3; k <= 60; k++) {
            Check.due("7: adds", x.adds(0, 0, 1), k);
        }
        Check.due("7: a 61st", x.adds(0, 0, 1), -1);
        Check.due("7: sixty", x.has(0, 1), 60);
    }

    private static void drops() {
        SortingNets x = new SortingNets();
        Check.net(x, 0, FOUR);
        Check.due("8: drops", x.drops(0, 1), 4);
        Check.shape("8: drops", x, 0, "4:01,02,13,12");
        Check.due("8: last", x.drops(0, 3), 3);
        Check.due("8: first", x.drops(0, 0), 2);
        Check.shape("8: drops", x, 0, "4:02,13");
        Check.due("8: none such", x.drops(0, 2), -1);
        Check.due("8: none such", x.drops(0, -1), -1);
        Check.due("8: net 4", x.drops(4, 0), -1);
        Check.due("8: net -1", x.drops(-1, 0), -1);
        x.drops(0, 0);
        Check.due("8: to none", x.drops(0, 0), 0);
        Check.due("8: of none", x.drops(0, 0), -1);
    }

    private static void swaps() {
        SortingNets x = new SortingNets();
        Check.net(x, 0, FOUR);
        Check.due("9: no wire in common", x.swaps(0, 0), 1);
        Check.shape("9: swaps", x, 0, "4:23,01,02,13,12");
        Check.due("9: i and i", x.swaps(0, 1), 0);
        Check.shape("9: swaps", x, 0, "4:23,02,01,13,12");
        Check.due("9: i and j", x.swaps(0, 3), 0);
        Check.shape("9: swaps", x, 0, "4:23,02,01,12,13");
        Check.due("9: j and j", Check.net(x, 1, "3:02,12") + x.swaps(1, 0), 2);
        Check.due("9: j and i", Check.net(x, 1, "3:01,12") + x.swaps(1, 0), 2);
        Check.due("9: i and j, the other way", Check.net(x, 1, "3:12,01") + x.swaps(1, 0), 2);
        Check.due("9: alike", Check.net(x, 1, "3:01,01") + x.swaps(1, 0), 2);
        Check.due("9: no next", x.swaps(0, 4), -1);
        Check.due("9: k below 0", x.swaps(0, -1), -1);
        Check.due("9: greatest k", x.swaps(0, Integer.MAX_VALUE), -1);
        Check.due("9: net 4", x.swaps(4, 0), -1);
        Check.due("9: net -1", x.swaps(-1, 0), -1);
        Check.shape("9: refused", x, 0, "4:23,02,01,12,13");
    }

    private static void copies() {
        SortingNets x = new SortingNets();
        Check.net(x, 0, "6:05,14");
        Check.due("10: copies", x.copies(0, 3), 2);
        Check.shape("10: copies", x, 3, "6:05,14");
        x.adds(0, 0, 1);
        Check.shape("10: not one", x, 3, "6:05,14");
        Check.due("10: onto itself", x.copies(3, 3), 2);
        Check.shape("10: onto itself", x, 3, "6:05,14");
        Check.due("10: net 4", x.copies(4, 0), -1);
        Check.due("10: to net 4", x.copies(0, 4), -1);
        Check.due("10: net -1", x.copies(-1, 0), -1);
        Check.due("10: to net -1", x.copies(0, -1), -1);
        Check.due("10: count(2)", x.count(2), 5);
    }

    private static void joins() {
        SortingNets x = new SortingNets();
        Check.net(x, 0, "4:01,23");
        Check.net(x, 1, "4:02,13,12");
        Check.due("11: joins", x.joins(0, 1), 5);
        Check.shape("11: joins", x, 0, FOUR);
        Check.shape("11: the other stays", x, 1, "4:02,13,12");
        Check.due("11: with itself", x.joins(1, 1), 6);
        Check.shape("11: with itself", x, 1, "4:02,13,12,02,13,12");
        x.draws(2, 4, 55, 1);
        Check.due("11: to 60", x.joins(2, 0), 60);
        Check.due("11: 61 and more", x.joins(2, 0), -3);
        Check.due("11: net 4", x.joins(4, 0), -1);
        Check.due("11: behind net 4", x.joins(0, 4), -1);
        Check.due("11: net -1", x.joins(-1, 0), -1);
        Check.due("11: behind net -1", x.joins(0, -1), -1);
        x.draws(3, 5, 60, 1);
        Check.due("11: other wires come first", x.joins(2, 3), -2);
        Check.due("11: refused", x.has(2, 1), 60);
        x.drops(2, 0);
        x.makes(0, 4, 0);
        x.adds(0, 0, 1);
        Check.due("11: just 60", x.joins(2, 0), 60);
        Check.due("11: one more", x.joins(2, 0), -3);
    }

    private static void flips() {
        SortingNets x = new SortingNets();
        Check.net(x, 0, FOUR);
        Check.due("12: flips", x.flips(0), 5);
        Check.shape("12: flips", x, 0, "4:12,13,02,23,01");
        x.drops(0, 4);
        Check.due("12: of an even number", x.flips(0), 4);
        Check.shape("12: flips", x, 0, "4:23,02,13,12");
        Check.due("12: none", x.flips(1), 0);
        Check.due("12: net 4", x.flips(4), -1);
        Check.due("12: net -1", x.flips(-1), -1);
    }

    private static void mirrors() {
        SortingNets x = new SortingNets();
        Check.net(x, 0, "5:01,03,14");
        Check.due("13: mirrors", x.mirrors(0), 3);
        Check.shape("13: mirrors", x, 0, "5:34,14,03");
        Check.due("13: none", x.mirrors(1), 0);
        Check.due("13: net 4", x.mirrors(4), -1);
        Check.due("13: net -1", x.mirrors(-1), -1);
    }

    private static void lays() {
        SortingNets x = new SortingNets();
        Check.net(x, 0, "4:12,01,23,03");
        Check.due("14: laid already", x.lays(0), 0);
        Check.net(x, 0, "4:23,12,01,01,23");
        // layers 1, 2, 3, 4, 3
        Check.due("14: the last two change", x.lays(0), 2);
        Check.shape("14: lays", x, 0, "4:23,12,01,23,01");
        Check.net(x, 0, "6:45,23,01,12,04");
        // layers 1, 1, 1, 2, 2
        Check.due("14: by i", x.lays(0), 4);
        Check.shape("14: by i", x, 0, "6:01,23,45,04,12");
        // layers 1, 2, 3, 1: number 2 has 02 for 03 then
        Check.net(x, 0, "6:01,02,03,45");
        Check.due("14: like i, unlike j", x.lays(0), 3);
        Check.shape("14: like i, unlike j", x, 0, "6:01,45,02,03");
        Check.due("14: none", x.lays(1), 0);
        Check.due("14: net 4", x.lays(4), -1);
        Check.due("14: net -1", x.lays(-1), -1);
    }

    private static void cuts() {
        SortingNets x = new SortingNets();
        Check.net(x, 0, FOUR);
        // the greatest goes 0, 1, 3: of 01 and 13 it takes the others back to 0 and 1
        Check.due("15: great", x.cuts(0, 0, true, 1), 3);
        Check.row("15: great", x, 3);
        Check.shape("15: great", x, 1, "3:12,01,12");
        // the least stays on 0 all the time
        Check.due("15: least stays", x.cuts(0, 0, false, 2), 3);
        Check.row("15: least stays", x, 0);
        Check.shape("15: least stays", x, 2, "3:12,02,01");
        Check.due("15: and sorts", x.sorts(2), 1);
        for (int w = 0; w < 4; w++) {
            x.cuts(0, w, false, 3);
            Check.row("15: least", x, 0);
            Check.due("15: sorts", x.sorts(3), 1);
            x.cuts(0, w, true, 3);
            Check.row("15: great", x, 3);
            Check.due("15: sorts", x.sorts(3), 1);
        }
        Check.due("15: in its own place", x.cuts(0, 3, true, 0), 3);
        Check.row("15: in its own place", x, 3);
        Check.shape("15: in its own place", x, 0, "3:01,02,12");
        Check.due("15: to two", x.cuts(0, 1, true, 0), 1);
        Check.shape("15: to two", x, 0, "2:01");
        Check.net(x, 0, "3:01,12,02");
        x.sorts(0);
        Check.due("15: without comparers of it", Check.net(x, 0, "4:12,12") + x.cuts(0, 0, true, 1), 4);
        Check.row("15: stays", x, 0);
        Check.shape("15: lines", x, 1, "3:01,01");
    }

    private static void cutsRefused() {
        SortingNets x = new SortingNets();
        x.makes(0, 2, 1);
        x.sorts(1);
        Check.due("15: two wires", x.cuts(0, 0, true, 1), -2);
        Check.due("15: NONE comes first", x.cuts(0, 2, true, 1), -1);
        Check.due("15: NONE comes first", x.cuts(0, 0, true, 4), -1);
        Check.due("15: no such wire", x.cuts(1, 4, true, 1), -1);
        Check.due("15: no such wire", x.cuts(1, -1, true, 1), -1);
        Check.due("15: net 4", x.cuts(4, 0, true, 1), -1);
        Check.due("15: net -1", x.cuts(-1, 0, false, 1), -1);
        Check.due("15: to net -1", x.cuts(1, 0, false, -1), -1);
        Check.row("15: row stays", x, 11, 1);
        Check.shape("15: refused", x, 1, "4:");
    }

    /** The most comparers that there can be, in every call that changes nets. */
    private static void sixty() {
        SortingNets x = new SortingNets();
        x.draws(0, 8, 60, 5);
        Check.due("10: sixty", x.copies(0, 1), 60);
        Check.due("12: sixty", x.flips(1) + x.flips(1), 120);
        Check.due("13: sixty", x.mirrors(1) + x.mirrors(1), 120);
        Check.due("33: sixty as before", x.same(0, 1), 1);
        x.lays(1);
        Check.due("14: sixty", x.has(1, 1), 60);
        Check.due("14: sixty", x.same(0, 1), 1);
        Check.due("14: sixty again", x.lays(1), 0);
        Check.due("9: the last two", x.swaps(1, 58) >= 0, true);
        Check.due("9: no next", x.swaps(1, 59), -1);
        Check.due("15: sixty", x.cuts(1, 0, true, 2) <= 60, true);
        Check.due("8: the last one", x.drops(1, 59), 59);
        x.makes(3, 8, 0);
        for (int k = 0; k < 60; k++) {
            x.adds(3, 6, 7);
        }
        Check.due("15: none of them is cut", x.cuts(3, 0, false, 3), 60);
        Check.due("15: none of them is cut", x.comparer(3, 59), 56);
    }
}
