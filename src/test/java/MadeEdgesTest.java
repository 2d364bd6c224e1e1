/** Promises 1 to 15: each sentence that names a boundary case has a test of its own. */
public final class MadeEdgesTest {
    public static void main(String[] args) throws ReflectiveOperationException {
        Edges.run(MadeEdgesTest.class);
    }

    // ---- 1, 2, 3: a new object, sign, end

    /** 1: NETS as told: also when others are made of the same class, and have been used. */
    static void p01EachObjectIsNew() {
        SortingNets used = Edges.sample();
        SortingNets x = new SortingNets();
        used.adds(0, 0, 1);
        for (int s = 0; s <= 3; s++) {
            Check.shape("1: net " + s, x, s, "4:");
        }
        Check.due("1: no text", x.count(1), 0);
        Check.row("1: no row", x);
    }

    /** 2: Four signs come behind THE TEXT, of v the highest byte first. */
    static void p02HighestByteFirst() {
        SortingNets x = new SortingNets();
        Check.due("2: sign", x.sign(0x333A3031), 4);
        Check.due("2: sign behind", x.sign(0x2C31322C), 8);
        Check.due("2: sign behind", x.sign(0x30312C31), 12);
        Check.due("2: end", x.end(10), true);
        Check.due("2: 3:01,12,01", x.net(0), 3);
        Check.shape("2: 3:01,12,01", x, 0, "3:01,12,01");
    }

    /** 2: signs are bytes: those above 127 are signs, too, and none is taken for another one. */
    static void p02SignsAboveAHundredAndTwentySeven() {
        for (int sign : new int[] {0, 127, 128, '0' + 128, 255}) {
            SortingNets x = new SortingNets();
            Check.due("2: sign", x.sign(0x343A3000 | sign), 4);
            Check.due("2: net with sign " + sign, x.net(0), -24);
            Check.due("2: sign", x.sign(sign << 24 | 0x3A3031), 4);
            Check.due("2: net from sign " + sign, x.net(0), -21);
        }
    }

    /** 2: Refused: there would be more than 200: 200 may be. */
    static void p02TwoHundredSigns() {
        SortingNets x = new SortingNets();
        for (int k = 1; k <= 50; k++) {
            Check.due("2: sign", x.sign(0x30303030), 4 * k);
        }
        Check.due("2: a 201st", x.sign(0x31313131), -1);
        Check.due("2: signs", x.count(1), 200);
        for (int many = 197; many <= 199; many++) {
            x.end(0);
            for (int k = 0; k < 50; k++) {
                x.sign(0);
            }
            Check.due("2: end", x.end(many), true);
            Check.due("2: four more than " + many, x.sign(0), -1);
            Check.due("2: none of them has come", x.count(1), many);
        }
        Check.due("2: end", x.end(196), true);
        Check.due("2: four more than 196", x.sign(0), 200);
    }

    /** 2: refused ones change nothing: what stands is read as before. */
    static void p02RefusedSignsLeaveTheText() {
        SortingNets x = new SortingNets();
        Check.text(x, Edges.pairs(8, 60));
        for (int k = 0; k < 4; k++) {
            x.sign(0);
        }
        Check.due("2: signs", x.count(1), 197);
        Check.due("2: refused", x.sign(0x30313233), -1);
        x.end(181);
        Check.due("2: read as before", x.net(3), 60);
        Check.shape("2: read as before", x, 3, Edges.pairs(8, 60));
    }

    /** 3: THE TEXT has its first n signs alone: true: none, all of them, or some. */
    static void p03FirstSignsAlone() {
        SortingNets x = new SortingNets();
        Check.due("3: none of none", x.end(0), true);
        x.sign(0x323A3130);
        Check.due("3: all", x.end(4), true);
        Check.due("3: signs", x.count(1), 4);
        Check.due("3: some", x.end(2), true);
        Check.due("3: signs", x.count(1), 2);
        x.sign(0x30312C30);
        Check.due("3: behind the first ones", x.count(1), 6);
        x.end(4);
        Check.due("3: 2:01", x.net(0), 1);
        Check.row("3: 2:01", x, 0, 1);
        x.sign(0x323A3130);
        Check.due("3: none", x.end(0), true);
        Check.due("3: signs", x.count(1), 0);
    }

    /** 3: false if it has not so many. */
    static void p03NotSoMany() {
        Check.due("3: one of none", new SortingNets().end(1), false);
        Edges.refused("3: one more", 0, x -> x.end(8) ? 1 : 0);
        Edges.refused("3: the most", 0, x -> x.end(Edges.MAX) ? 1 : 0);
        SortingNets x = new SortingNets();
        for (int k = 0; k < 50; k++) {
            x.sign(0);
        }
        Check.due("3: 201 of 200", x.end(201), false);
        Check.due("3: 200 of 200", x.end(200), true);
        x.end(100);
        Check.due("3: signs that have gone", x.end(101), false);
    }

    /** 3: .. or n is below 0. */
    static void p03BelowNought() {
        Check.due("3: -1 of none", new SortingNets().end(-1), false);
        Edges.refused("3: -1", 0, x -> x.end(-1) ? 1 : 0);
        Edges.refused("3: the least", 0, x -> x.end(Edges.MIN) ? 1 : 0);
    }

    // ---- 4: net

    private static void cantStand(String text, int p) {
        Edges.refusedReading("4: net", text, -21 - p, x -> x.net(1));
    }

    /** 4: n: a number of wires that there can be, a digit. */
    static void p04FirstSign() {
        for (int sign = 0; sign < 256; sign++) {
            SortingNets x = new SortingNets();
            x.sign(sign << 24 | 0x3A3031);
            Check.due("4: first sign " + sign, x.net(0), sign >= '2' && sign <= '8' ? 1 : -21);
        }
    }

    /** 4: :, behind n. */
    static void p04SecondSign() {
        for (int sign = 0; sign < 256; sign++) {
            SortingNets x = new SortingNets();
            x.sign(0x34003031 | sign << 16);
            Check.due("4: second sign " + sign, x.net(0), sign == ':' ? 1 : -22);
        }
    }

    /** 4: then PAIRS (none, or some): none of each number of wires, and the NET has none of its old ones. */
    static void p04NoPairs() {
        for (int n = 2; n <= 8; n++) {
            SortingNets x = Edges.sample();
            x.end(0);
            Check.due("4: " + n + ":", Check.net(x, 3, n + ":"), 0);
            Check.due("4: row of " + n, x.count(0), n);
            for (int w = 0; w < n; w++) {
                Check.due("4: each is at itself", x.row(w), w);
            }
            Check.shape("4: " + n + ":", x, 3, n + ":");
        }
    }

    /** 4: with , between: not ahead, not behind, not two, no other sign. */
    static void p04CommasBetween() {
        cantStand("4:,", 2);
        cantStand("4:,01", 2);
        cantStand("4:01,", 5);
        cantStand("4:01,,23", 5);
        cantStand("4:0123", 4);
        cantStand("4:01;23", 4);
        cantStand("4:01-23", 4);
        cantStand("4:01+23", 4);
        cantStand("4:0,1", 3);
    }

    /** 4: (no blanks). */
    static void p04NoBlanks() {
        cantStand(" 4:01", 0);
        cantStand("4 :01", 1);
        cantStand("4: 01", 2);
        cantStand("4:0 1", 3);
        cantStand("4:01 ", 4);
        cantStand("4:01, 23", 5);
        cantStand("4:01\n", 4);
    }

    /** 4: a WIRE that is none: it. */
    static void p04NoSuchWire() {
        for (int n = 2; n <= 8; n++) {
            cantStand(n + ":" + n + "0", 2);
            cantStand(n + ":0" + n, 3);
            cantStand(n + ":01,9", 5);
            int last = n - 1;
            SortingNets x = new SortingNets();
            Check.due("4: the last wire of " + n, Check.net(x, 0, n + ":0" + last + "," + last + "0"), 2);
        }
        cantStand("8:/1", 2);
        cantStand("8:::", 2);
        cantStand("8:a1", 2);
        cantStand("8:0a", 3);
        cantStand("4:10,04", 6);
    }

    /** 4: .. or that the PAIR has already: it. */
    static void p04WireOfThePair() {
        for (int w = 0; w < 8; w++) {
            cantStand("8:" + w + w, 3);
        }
        cantStand("4:10,11", 6);
        // wires that pairs ahead have may come again
        Check.due("4: other pairs' wires", Check.net(new SortingNets(), 0, "2:01,10,01"), 3);
    }

    /** 4: a 61st PAIR: the , ahead of it. */
    static void p04SixtyFirstPair() {
        cantStand(Edges.pairs(8, 61), 181);
        cantStand(Edges.pairs(2, 61), 181);
        cantStand(Edges.pairs(8, 60) + ",", 181);
        cantStand(Edges.pairs(8, 60) + ",99", 181);
        cantStand(Edges.pairs(8, 60) + "0", 181);
        Check.due("4: sixty", Check.net(new SortingNets(), 0, Edges.pairs(8, 60)), 60);
        Check.due("4: fifty-nine", Check.net(new SortingNets(), 0, Edges.pairs(8, 59)), 59);
        cantStand(Edges.pairs(8, 59) + ",", 179);
        cantStand(Edges.pairs(8, 59) + ",0", 180);
    }

    /** 4: THE TEXT ends too early: an empty one, too. */
    static void p04EndsTooEarly() {
        cantStand("", 0);
        cantStand("4", 1);
        cantStand("4:0", 3);
        cantStand("4:01,2", 6);
    }

    /** 4: the ROW: by WIRES where each is then: so many numbers as WIRES, also of crossed ones. */
    static void p04RowByWires() {
        SortingNets x = new SortingNets();
        Check.due("4: crossed", Check.net(x, 0, "8:70,61,52,43"), 4);
        Check.row("4: crossed", x, 7, 6, 5, 4, 3, 2, 1, 0);
        Check.shape("4: crossed", x, 0, "8:07,16,25,34");
        Check.due("4: all round", Check.net(x, 0, "4:10,20,30"), 3);
        // 0 goes to 1, then to 2, then to 3, each of the others goes down
        Check.row("4: all round", x, 3, 0, 1, 2);
        Check.shape("4: all round", x, 0, "4:01,12,23");
    }

    /** 4: NET s alone becomes it, with its WIRES. */
    static void p04OneNetAlone() {
        SortingNets x = Edges.with("3:01", "4:02", "5:03", "6:04");
        Check.due("4: net 1", Check.net(x, 1, "8:67"), 1);
        Check.shape("4: net 0", x, 0, "3:01");
        Check.shape("4: net 1", x, 1, "8:67");
        Check.shape("4: net 2", x, 2, "5:03");
        Check.shape("4: net 3", x, 3, "6:04");
    }

    // ---- 5: makes

    /** 5: way 0: none. */
    static void p05NoComparers() {
        for (int n = 2; n <= 8; n++) {
            SortingNets x = Edges.sample();
            Check.due("5: way 0 of " + n, x.makes(3, n, 0), 0);
            Check.shape("5: way 0 of " + n, x, 3, n + ":");
        }
    }

    /** 5: way 1: for r 0 .. n - 2, for w 0 .. n - 2 - r. */
    static void p05WayOne() {
        made(1, 2, "2:01");
        made(1, 3, "3:01,12,01");
        made(1, 5, "5:01,12,23,34,01,12,23,01,12,01");
        made(1, 8, "8:01,12,23,34,45,56,67,01,12,23,34,45,56,01,12,23,34,45,01,12,23,34,01,12,23,01,12,01");
    }

    /** 5: way 2: for r 1 .. n - 1, for w r - 1 .. 0. */
    static void p05WayTwo() {
        made(2, 2, "2:01");
        made(2, 3, "3:01,12,01");
        made(2, 5, "5:01,12,01,23,12,01,34,23,12,01");
        made(2, 8, "8:01,12,01,23,12,01,34,23,12,01,45,34,23,12,01,56,45,34,23,12,01,67,56,45,34,23,12,01");
    }

    /** 5: way 3: for r 0 .. n - 1, for all w from r % 2 on, in twos, below n - 1: of two wires the second r has none. */
    static void p05WayThree() {
        made(3, 2, "2:01");
        made(3, 3, "3:01,12,01");
        made(3, 5, "5:01,23,12,34,01,23,12,34,01,23");
        made(3, 8, "8:01,23,45,67,12,34,56,01,23,45,67,12,34,56,01,23,45,67,12,34,56,01,23,45,67,12,34,56");
    }

    /** 5: way 4: t the least power of two that is n or more: n itself for 2, 4 and 8. */
    static void p05WayFour() {
        made(4, 2, "2:01");
        made(4, 3, "3:02,01,12");
        made(4, 4, "4:02,13,01,23,12");
        made(4, 5, "5:04,02,13,24,01,23,14,12,34");
        made(4, 6, "6:04,15,02,13,24,35,01,23,45,14,12,34");
        made(4, 7, "7:04,15,26,02,13,46,24,35,01,23,45,14,36,12,34,56");
        made(4, 8, "8:04,15,26,37,02,13,46,57,24,35,01,23,45,67,14,36,12,34,56");
    }

    private static void made(int way, int n, String net) {
        SortingNets x = Edges.sample();
        String call = "5: way " + way + " of " + n;
        Check.due(call, x.makes(3, n, way), (net.length() - 1) / 3);
        Check.row(call + " keeps the row", x, 6, 2);
        Check.shape(call, x, 3, net);
    }

    /** 5: NONE: another n. */
    static void p05AnotherN() {
        for (int n : new int[] {1, 9, 0, -1, -4, Edges.MIN, Edges.MAX}) {
            for (int way = 0; way <= 4; way++) {
                int asked = way;
                Edges.refused("5: way " + way + " of " + n, -1, x -> x.makes(0, n, asked));
            }
        }
    }

    /** 5: NONE: another way. */
    static void p05AnotherWay() {
        for (int way : new int[] {-1, 5, Edges.MIN, Edges.MAX}) {
            Edges.refused("5: way " + way, -1, x -> x.makes(0, 4, way));
        }
    }

    // ---- 6: draws

    private static void drawn(int n, int k, int seed, int wrong, String net) {
        SortingNets x = Edges.sample();
        String call = "6: draws " + n + ", " + k + ", " + seed;
        Check.due(call, x.draws(3, n, k, seed), wrong);
        Check.row(call + " keeps the row", x, 6, 2);
        Check.shape(call, x, 3, net);
    }

    /** 6: k (0 .. 60): none: all patterns but the sorted ones are wrong. */
    static void p06None() {
        for (int n = 2; n <= 8; n++) {
            drawn(n, 0, 77, (1 << n) - n - 1, n + ":");
        }
    }

    /** 6: k (0 .. 60): sixty. */
    static void p06Sixty() {
        SortingNets x = new SortingNets();
        Check.due("6: sixty", x.draws(0, 2, 60, 1), 0);
        Check.shape("6: sixty", x, 0, Edges.pairs(2, 60));
    }

    /** 6: NONE: others: k. */
    static void p06AnotherK() {
        for (int k : new int[] {-1, 61, Edges.MIN, Edges.MAX}) {
            Edges.refused("6: k " + k, -1, x -> x.draws(0, 4, k, 1));
        }
    }

    /** 6: NONE: others: n. */
    static void p06AnotherN() {
        for (int n : new int[] {1, 9, 0, -1, Edges.MIN, Edges.MAX}) {
            Edges.refused("6: n " + n, -1, x -> x.draws(0, n, 3, 1));
        }
    }

    /** 6: R = R times 1103515245 + 12345 (as ints), R without sign: it wraps around, from any seed. */
    static void p06AsIntsWithoutSign() {
        drawn(4, 3, 0, 6, "4:03,01,02");
        drawn(4, 3, -1, 7, "4:13,23,12");
        drawn(8, 4, Edges.MAX, 238, "8:01,67,13,04");
        drawn(8, 4, Edges.MIN, 236, "8:07,45,12,15");
        drawn(5, 4, 1, 23, "5:23,34,34,34");
    }

    /** 6: one of n - 1 (one more, if it is that one or above): never twice the same wire, the lesser one first. */
    static void p06TwoWiresEach() {
        for (int n = 2; n <= 8; n++) {
            SortingNets x = new SortingNets();
            x.draws(0, n, 60, 31 * n);
            for (int k = 0; k < 60; k++) {
                int code = x.comparer(0, k);
                Check.due("6: i below j", code / 10 < code % 10 && code % 10 < n, true);
            }
        }
        drawn(2, 3, 9, 0, "2:01,01,01");
        drawn(3, 6, 12345, 0, "3:02,01,02,01,12,12");
    }

    // ---- 7, 8, 9: adds, drops, swaps

    /** 7: A COMPARER of WIRES i, j (i below j): the first and the last wire, too. */
    static void p07FirstAndLastWire() {
        for (int n = 2; n <= 8; n++) {
            SortingNets x = Edges.with(n + ":");
            Check.due("7: 0 and the last of " + n, x.adds(0, 0, n - 1), 1);
            Check.due("7: the last two of " + n, x.adds(0, n - 2, n - 1), 2);
            Check.due("7: one beyond " + n, x.adds(0, n - 1, n), -1);
            Check.due("7: the last of " + n + " twice", x.adds(0, n - 1, n - 1), -1);
            Check.shape("7: behind all", x, 0, n + ":0" + (n - 1) + "," + (n - 2) + (n - 1));
        }
    }

    /** 7: NONE: others: i not below j. */
    static void p07NotBelow() {
        Edges.refused("7: alike", -1, x -> x.adds(0, 2, 2));
        Edges.refused("7: turned", -1, x -> x.adds(0, 2, 1));
        Edges.refused("7: the greatest turned", -1, x -> x.adds(0, 3, 0));
    }

    /** 7: NONE: others: no such WIRE. */
    static void p07NoSuchWire() {
        Edges.refused("7: j is none", -1, x -> x.adds(0, 0, 4));
        Edges.refused("7: i is none", -1, x -> x.adds(0, -1, 0));
        Edges.refused("7: both are none", -1, x -> x.adds(0, 4, 5));
        Edges.refused("7: both are none", -1, x -> x.adds(0, -2, -1));
        Edges.refused("7: far off", -1, x -> x.adds(0, Edges.MIN, Edges.MAX));
    }

    /** 7: NONE: .. or there are 60. */
    static void p07Full() {
        Edges.refused("7: a 61st", -1, x -> x.adds(3, 0, 1));
        SortingNets x = Edges.with(Edges.pairs(8, 59));
        Check.due("7: a 60th", x.adds(0, 0, 7), 60);
        Check.due("7: a 61st", x.adds(0, 0, 7), -1);
        x.drops(0, 0);
        Check.due("7: a 60th again", x.adds(0, 1, 7), 60);
        Check.due("7: it is the last", x.comparer(0, 59), 17);
    }

    /** 8: COMPARER k goes: the first, the last, the only one. */
    static void p08FirstLastOnly() {
        SortingNets x = Edges.with("4:01,02,03", Edges.pairs(8, 60));
        Check.due("8: the last", x.drops(0, 2), 2);
        Check.shape("8: the last", x, 0, "4:01,02");
        Check.due("8: the first", x.drops(0, 0), 1);
        Check.shape("8: the first", x, 0, "4:02");
        Check.due("8: the only one", x.drops(0, 0), 0);
        Check.shape("8: the only one", x, 0, "4:");
        Check.due("8: of sixty the last", x.drops(1, 59), 59);
        Check.shape("8: of sixty the last", x, 1, Edges.pairs(8, 59));
        Check.due("8: of 59 the first", x.drops(1, 0), 58);
        Check.due("8: the next is the first", x.comparer(1, 0), 12);
    }

    /** 8: no such COMPARER. */
    static void p08NoSuchComparer() {
        Edges.refused("8: one beyond", -1, x -> x.drops(0, 5));
        Edges.refused("8: below 0", -1, x -> x.drops(0, -1));
        Edges.refused("8: 60", -1, x -> x.drops(3, 60));
        Edges.refused("8: the least", -1, x -> x.drops(0, Edges.MIN));
        Edges.refused("8: the greatest", -1, x -> x.drops(0, Edges.MAX));
        Check.due("8: of none", new SortingNets().drops(0, 0), -1);
    }

    /** 9: 1, if they have no WIRE in common. */
    static void p09NothingInCommon() {
        swapped("4:01,23", 1, "4:23,01");
        swapped("4:03,12", 1, "4:12,03");
        swapped("4:02,13", 1, "4:13,02");
    }

    /** 9: else 0 (they do it then, too): whichever wires are in common. */
    static void p09SomethingInCommon() {
        swapped("4:01,02", 0, "4:02,01");
        swapped("4:02,12", 0, "4:12,02");
        swapped("4:01,12", 0, "4:12,01");
        swapped("4:12,01", 0, "4:01,12");
        swapped("4:12,12", 0, "4:12,12");
    }

    private static void swapped(String before, int want, String then) {
        SortingNets x = Edges.with(before);
        Check.due("9: swaps " + before, x.swaps(0, 0), want);
        Check.shape("9: swaps " + before, x, 0, then);
    }

    /** 9: COMPARERS k and k + 1: the last two. */
    static void p09LastTwo() {
        SortingNets x = Edges.with(Edges.FOUR, Edges.pairs(8, 60));
        Check.due("9: the last two", x.swaps(0, 3), 0);
        Check.shape("9: the last two", x, 0, "4:01,23,02,12,13");
        Check.due("9: 58 and 59 of sixty", x.swaps(1, 58), 0);
        Check.due("9: 58", x.comparer(1, 58), 34);
        Check.due("9: 59", x.comparer(1, 59), 23);
    }

    /** 9: NONE: k + 1 is none. */
    static void p09NoNext() {
        Edges.refused("9: the last one", -1, x -> x.swaps(0, 4));
        Edges.refused("9: the only one", -1, x -> x.swaps(2, 0));
        Edges.refused("9: 59", -1, x -> x.swaps(3, 59));
        Edges.refused("9: k is none, k + 1 is one", -1, x -> x.swaps(0, -1));
        Edges.refused("9: both are none", -1, x -> x.swaps(0, 5));
        Edges.refused("9: k + 1 would wrap around", -1, x -> x.swaps(0, Edges.MAX));
        Edges.refused("9: the least", -1, x -> x.swaps(0, Edges.MIN));
        Check.due("9: of none", new SortingNets().swaps(0, 0), -1);
    }

    // ---- 10, 11: copies, joins

    /** 10: NET t becomes as s: its WIRES, too; more comparers, and fewer. */
    static void p10BecomesAs() {
        SortingNets x = Edges.with("4:03,12", Edges.pairs(8, 60), "2:");
        Check.due("10: more", x.copies(1, 0), 60);
        Check.shape("10: more", x, 0, Edges.pairs(8, 60));
        Check.due("10: none", x.copies(2, 0), 0);
        Check.shape("10: none", x, 0, "2:");
        Check.shape("10: s stays", x, 1, Edges.pairs(8, 60));
    }

    /** 10: s and t may be one. */
    static void p10OntoItself() {
        SortingNets x = Edges.with("5:04,13");
        Check.due("10: onto itself", x.copies(0, 0), 2);
        Check.shape("10: onto itself", x, 0, "5:04,13");
    }

    /** 10: they are two NETS then. */
    static void p10TwoNetsThen() {
        SortingNets x = Edges.with("5:04,13");
        x.copies(0, 1);
        x.drops(1, 0);
        x.mirrors(1);
        Check.shape("10: s stays", x, 0, "5:04,13");
    }

    /** 11: COMPARERS of t come behind those of s (as they were; they may be one). */
    static void p11WithItself() {
        SortingNets x = Edges.with("4:01,23,02", Edges.pairs(8, 30), "4:");
        Check.due("11: with itself", x.joins(0, 0), 6);
        Check.shape("11: with itself", x, 0, "4:01,23,02,01,23,02");
        Check.due("11: thirty with itself", x.joins(1, 1), 60);
        Check.due("11: none with itself", x.joins(2, 2), 0);
    }

    /** 11: none come, or come to none. */
    static void p11None() {
        SortingNets x = Edges.with("4:01,23", "4:");
        Check.due("11: none come", x.joins(0, 1), 2);
        Check.shape("11: none come", x, 0, "4:01,23");
        Check.due("11: to none", x.joins(1, 0), 2);
        Check.shape("11: to none", x, 1, "4:01,23");
        Check.shape("11: t stays", x, 0, "4:01,23");
    }

    /** 11: -2: they have not as many WIRES: though none come. */
    static void p11OtherWires() {
        Edges.refused("11: 4 and 2", -2, x -> x.joins(0, 2));
        Edges.refused("11: 2 and 4", -2, x -> x.joins(2, 0));
        SortingNets x = Edges.with("3:01", "4:");
        Check.due("11: none of other wires", x.joins(0, 1), -2);
    }

    /** 11: -3: there would be more than 60: 60 may be. */
    static void p11MoreThanSixty() {
        Edges.refused("11: 120", -3, x -> x.joins(3, 3));
        SortingNets x = Edges.with(Edges.pairs(8, 59), "8:07", "8:", Edges.pairs(8, 31));
        Check.due("11: 60", x.joins(0, 1), 60);
        Check.due("11: 61", x.joins(0, 1), -3);
        Check.due("11: 60 and none", x.joins(0, 2), 60);
        Check.due("11: 62", x.joins(3, 3), -3);
        Check.shape("11: 62 changes nothing", x, 3, Edges.pairs(8, 31));
    }

    // ---- 12, 13, 14: flips, mirrors, lays

    /** 12: The order of COMPARERS is turned round: of none, one, two, sixty. */
    static void p12TurnedRound() {
        SortingNets x = Edges.with("4:", "4:02", "4:02,13", "2:01");
        Check.due("12: none", x.flips(0), 0);
        Check.shape("12: none", x, 0, "4:");
        Check.due("12: one", x.flips(1), 1);
        Check.shape("12: one", x, 1, "4:02");
        Check.due("12: two", x.flips(2), 2);
        Check.shape("12: two", x, 2, "4:13,02");
        Check.net(x, 3, Edges.pairs(8, 60));
        Check.due("12: sixty", x.flips(3), 60);
        for (int k = 0; k < 60; k++) {
            int w = (59 - k) % 7;
            Check.due("12: sixty", x.comparer(3, k), 11 * w + 1);
        }
    }

    /** 13: WIRES i, j of each COMPARER become n - 1 - j, n - 1 - i: i stays below j. */
    static void p13Mirrored() {
        SortingNets x = Edges.with("2:01", "3:01,02,12", "8:07,01,34,25", "4:");
        Check.due("13: two wires", x.mirrors(0), 1);
        Check.shape("13: two wires", x, 0, "2:01");
        Check.due("13: three wires", x.mirrors(1), 3);
        Check.shape("13: three wires", x, 1, "3:12,02,01");
        Check.due("13: eight wires", x.mirrors(2), 4);
        Check.shape("13: eight wires", x, 2, "8:07,67,34,25");
        Check.due("13: none", x.mirrors(3), 0);
        Check.shape("13: none", x, 3, "4:");
        Check.net(x, 3, Edges.pairs(8, 60));
        Check.due("13: sixty", x.mirrors(3), 60);
        for (int k = 0; k < 60; k++) {
            int w = 6 - k % 7;
            Check.due("13: sixty", x.comparer(3, k), 11 * w + 1);
        }
    }

    /** 14: at how many numbers there is one of other WIRES than before: at none, if it is laid already. */
    static void p14AtNone() {
        SortingNets x = Edges.with("4:", "4:12", "4:01,23,02,13,12", Edges.pairs(2, 60));
        int[] sizes = {0, 1, 5, 60};
        for (int s = 0; s <= 3; s++) {
            Check.due("14: net " + s, x.lays(s), 0);
            Check.due("14: net " + s, x.has(s, 1), sizes[s]);
        }
    }

    /** 14: .. of other WIRES: another one of the same wires does not count. */
    static void p14LikeWiresDoNotCount() {
        SortingNets x = Edges.with("4:23,01,23", "6:01,45,01,45,01,23");
        Check.due("14: the third has come from elsewhere", x.lays(0), 2);
        Check.shape("14: the third has come from elsewhere", x, 0, "4:01,23,23");
        // layers 1, 1, 2, 2, 3, 1
        Check.due("14: all but the first", x.lays(1), 5);
        Check.shape("14: all but the first", x, 1, "6:01,23,45,01,45,01");
    }

    /** 14: .. of other WIRES: one of them is enough. */
    static void p14OneOtherWireCounts() {
        SortingNets x = Edges.with("6:01,02,03,45", "6:45,35,25,01");
        // layers 1, 2, 3, 1 of both
        Check.due("14: like i, unlike j", x.lays(0), 3);
        Check.shape("14: like i, unlike j", x, 0, "6:01,45,02,03");
        Check.due("14: unlike i, like j", x.lays(1), 4);
        Check.shape("14: unlike i, like j", x, 1, "6:01,45,35,25");
    }

    /** 14: in the order of LAYERS, in each by i: whichever order they had, and it stays laid. */
    static void p14ByLayersThenByI() {
        SortingNets x = Edges.with("8:67,45,23,01,27,36", Edges.pairs(8, 60));
        Check.due("14: turned", x.lays(0), 4);
        Check.shape("14: turned", x, 0, "8:01,23,45,67,27,36");
        x.copies(1, 2);
        Check.due("14: sixty", x.lays(1) > 0, true);
        Check.due("14: sixty", x.has(1, 1), 60);
        Check.due("14: sixty do the same", x.same(1, 2), 1);
        Check.due("14: sixty are laid", x.lays(1), 0);
    }

    // ---- 15: cuts

    /** 15: -2: s has two WIRES: three may be cut. */
    static void p15TwoWires() {
        Edges.refused("15: wire 0, great", -2, x -> x.cuts(2, 0, true, 1));
        Edges.refused("15: wire 1, not great", -2, x -> x.cuts(2, 1, false, 2));
        SortingNets x = Edges.with("3:01,12,01");
        Check.due("15: three", x.cuts(0, 0, true, 1), 1);
        Check.row("15: three", x, 2);
        Check.shape("15: three", x, 1, "2:01");
    }

    /** 15: no such WIRE, also where there are two. */
    static void p15NoSuchWire() {
        for (int w : new int[] {-1, 4, Edges.MIN, Edges.MAX}) {
            Edges.refused("15: wire " + w, -1, x -> x.cuts(0, w, true, 1));
            Edges.refused("15: wire " + w, -1, x -> x.cuts(0, w, false, 1));
            Edges.refused("15: wire " + w + " of two", -1, x -> x.cuts(2, w, false, 1));
        }
    }

    /** 15: without COMPARERS: HERE stays. */
    static void p15NoComparers() {
        for (int n = 3; n <= 8; n++) {
            for (int w = 0; w < n; w++) {
                SortingNets x = Edges.with(n + ":", "2:01");
                Check.due("15: wire " + w + " of " + n, x.cuts(0, w, w % 2 == 0, 1), 0);
                Check.row("15: wire " + w + " of " + n, x, w);
                Check.shape("15: wire " + w + " of " + n, x, 1, (n - 1) + ":");
                Check.shape("15: s stays", x, 0, n + ":");
            }
        }
    }

    /** 15: WIRES of s but w have LINES 0 .. n - 2, in their order: those above w are one less. */
    static void p15Lines() {
        String[] lines = {"3:12", "3:02", "3:02", "3:"};
        String[] nets = {"4:23", "4:03", "4:02", "4:"};
        for (int k = 0; k < nets.length; k++) {
            SortingNets x = Edges.with(nets[k]);
            int w = k == 0 ? 0 : k == 1 ? 1 : 3;
            x.cuts(0, w, true, 1);
            Check.row("15: wire " + w + " of " + nets[k], x, w);
            Check.shape("15: wire " + w + " of " + nets[k], x, 1, lines[k]);
        }
    }

    /** 15: if HERE is at i (great) .. the LINE of its other WIRE comes to where HERE is, HERE to that other one. */
    static void p15GreatMovesUp() {
        SortingNets x = Edges.with("3:02,01");
        // HERE goes 0, 2; the line of wire 2, which is 1, comes to wire 0; 01 is lines 1, 0 then
        Check.due("15: great", x.cuts(0, 0, true, 1), 1);
        Check.row("15: great", x, 2);
        Check.shape("15: great", x, 1, "2:01");
        x.cuts(0, 0, false, 1);
        Check.row("15: not great, at i: nothing happens", x, 0);
        Check.shape("15: not great, at i: nothing happens", x, 1, "2:");
    }

    /** 15: .. or at j (not great). */
    static void p15NotGreatMovesDown() {
        SortingNets x = Edges.with("3:02,12");
        Check.due("15: not great", x.cuts(0, 2, false, 1), 1);
        Check.row("15: not great", x, 0);
        Check.shape("15: not great", x, 1, "2:01");
        Check.due("15: great, at j: nothing happens", x.cuts(0, 2, true, 1), 0);
        Check.row("15: great, at j: nothing happens", x, 2);
        Check.shape("15: great, at j: nothing happens", x, 1, "2:");
    }

    /** 15: t is these PAIRS, UNTANGLED: lines that have crossed are where they have come to. */
    static void p15Untangled() {
        SortingNets x = Edges.with("4:03,01,12,02");
        // HERE 0 to 3: wire 0 has line 2; 01: lines 2, 0, at 0, 2 then; 12: lines 0, 1, at 1, 2; 02: lines 2, 1, at 0, 2
        Check.due("15: untangled", x.cuts(0, 0, true, 1), 3);
        Check.row("15: untangled", x, 3);
        Check.shape("15: untangled", x, 1, "3:02,12,02");
    }

    /** 15: .. (LINES being WIRES): each is at first at itself, whatever was untangled before. */
    static void p15UntangledAnew() {
        SortingNets x = new SortingNets();
        x.makes(0, 4, 4);
        Check.due("15: nothing was before", x.cuts(0, 3, true, 1), 3);
        Check.shape("15: nothing was before", x, 1, "3:02,01,12");
        Check.net(x, 2, "8:70,61,52,43");
        x.orders(0);
        Check.due("15: behind a crossed net", x.cuts(0, 3, true, 1), 3);
        Check.row("15: behind a crossed net", x, 3);
        Check.shape("15: behind a crossed net", x, 1, "3:02,01,12");
        Check.due("15: behind it, to be crossed", x.cuts(0, 0, true, 1), 3);
        Check.row("15: behind it, to be crossed", x, 3);
        Check.due("15: sorts", x.sorts(1), 1);
    }

    /** 15: NET t may be s. */
    static void p15InItsOwnPlace() {
        SortingNets x = Edges.with("4:03,01,12,02");
        Check.due("15: in its own place", x.cuts(0, 0, true, 0), 3);
        Check.shape("15: in its own place", x, 0, "3:02,12,02");
    }

    /** 15: sixty COMPARERS, none of which has HERE, and sixty that all have it. */
    static void p15Sixty() {
        SortingNets x = Edges.with(Edges.pairs(2, 60), "3:");
        for (int k = 0; k < 60; k++) {
            x.adds(1, 0, 1);
        }
        Check.due("15: none has it", x.cuts(1, 2, false, 2), 60);
        Check.shape("15: none has it", x, 2, Edges.pairs(2, 60));
        Check.due("15: all have it", x.cuts(1, 1, false, 2), 0);
        Check.shape("15: all have it", x, 2, "2:");
    }
}
