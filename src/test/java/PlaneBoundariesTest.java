import java.math.BigInteger;

// Told ways, snails, threads and flies, at each bound that the document names.
public final class PlaneBoundariesTest {
    private static final Sentences DOC = new Sentences();

    public static void main(String[] args) throws Exception {
        toldNoLessThanI();
        toldMeets();
        toldTwice();
        toldBarred();
        toldNot();
        toldCall();
        snailAtFirst();
        snailSlopes();
        snailEdges();
        snailRolls();
        snailCorners();
        snailBarsAside();
        snailCall();
        threadHighs();
        threadLengths();
        threadAnswers();
        threadCall();
        fliesHowMany();
        fliesLots();
        fliesCall();
        DOC.finish(args);
    }

    // ---- told ways

    private static void toldNoLessThanI() {
        DOC.of("TOLD WAY: from a PLACE on the WALL below behind i ROLLS, to one on the WALL below behind k (no less than i)");
        BoxSpider b = Boxes.of(4, 4, 4);
        b.place(0, 4, 2, 0);
        b.place(1, 4, 4, 2);
        Boxes.type(b, "en");
        for (int i = 0; i <= 2; i++) {
            for (int k = 0; k < i; k++) {
                DOC.due("told from " + i + " to " + k, b.told(1, i, 1, k), -2);
            }
        }
        DOC.due("as many as there are", b.told(0, 0, 1, 2), 4 + 4);
        DOC.due("one less", b.told(0, 0, 1, 1), 4 + 4);
        DOC.due("no roll between, behind one", b.told(0, 1, 1, 1), 4 + 4);
        DOC.due("no roll between, behind two", b.told(1, 2, 1, 2), 0);
        DOC.due("no roll between, behind none", b.told(0, 0, 0, 0), 0);
        DOC.due("one more than there are", b.told(0, 0, 1, 3), -2);
    }

    private static void toldMeets() {
        DOC.of("whether the straight line on the plane meets each of the edges over which THE BOX is rolled between "
            + "(their ends, too;");
        BoxSpider b = Boxes.of(4, 4, 4);
        b.place(0, 2, 2, 0);
        b.place(1, 4, 2, 3);
        b.place(2, 4, 2, 2);
        b.place(3, 4, 2, 1);
        Boxes.type(b, "ne");
        // Wall 3 lies in the north east of wall 0: the line goes above its corner, through it, below it.
        DOC.due("above the corner", b.told(0, 0, 1, 2), 16 + 25);
        DOC.due("through the corner", b.told(0, 0, 2, 2), 16 + 16);
        DOC.due("below the corner", b.told(0, 0, 3, 2), -3);
        b.place(4, 4, 0, 0);
        b.place(5, 4, 4, 0);
        DOC.due("along an edge that is not rolled over", b.told(4, 0, 5, 0), 16);
        DOC.due("to the end of one that is", b.told(4, 0, 5, 1), 16);
        DOC.due("to the end of both", b.told(4, 0, 5, 2), 16);
        b.wipe();
        Boxes.type(b, "e");
        DOC.due("along the edge", b.told(4, 0, 5, 1), 16);
        DOC.due("a line without length on the edge", b.told(5, 0, 5, 1), 0);
    }

    private static void toldTwice() {
        DOC.of("WALLS may come twice");
        BoxSpider b = Boxes.of(30, 30, 30);
        b.place(0, 15, 15, 0);
        b.place(1, 30, 15, 0);
        for (int n = 0; n < 20; n++) {
            b.type('e');
        }
        for (int k = 0; k <= 20; k += 4) {
            DOC.due("round " + k / 4 + " times", b.told(0, 0, 0, k), 900 * k * k);
        }
        DOC.due("the longest", b.told(0, 0, 1, 20), 615 * 615);
        b.wipe();
        Boxes.type(b, "ewew");
        DOC.due("to the edge and back again", b.told(0, 0, 1, 4), 225);
        DOC.due("not to the edge", b.told(0, 0, 0, 2), -3);
    }

    private static void toldBarred() {
        DOC.of("WALLS may come twice; none barred)");
        BoxSpider b = Boxes.of(4, 4, 4);
        b.place(0, 2, 2, 0);
        b.place(1, 4, 2, 2);
        b.place(2, 2, 2, 4);
        Boxes.type(b, "eeeee");
        b.bar(0, 3, 1);
        DOC.due("over it", b.told(0, 0, 1, 1), -3);
        DOC.due("over it and on", b.told(0, 0, 2, 2), -3);
        DOC.due("from behind it", b.told(1, 1, 2, 2), 16);
        DOC.due("up to it", b.told(1, 1, 0, 4), 144);
        DOC.due("over it at last", b.told(1, 1, 1, 5), -3);
        DOC.due("on the wall ahead of it", b.told(0, 0, 0, 0), 0);
        b.bar(0, 3, 0);
        DOC.due("not barred any more", b.told(1, 1, 1, 5), 256);
        b.bar(2, 1, 1);
        DOC.due("another one between", b.told(1, 1, 1, 5), -3);
        // At its end only: it is met there, and barred.
        b.wipe();
        Boxes.type(b, "ne");
        DOC.due("through the corner", b.told(0, 0, 1, 2), 32);
        b.bar(0, 3, 1);
        DOC.due("the corner's other edge is barred", b.told(0, 0, 1, 2), 32);
        b.bar(3, 5, 1);
        DOC.due("an edge met at its end is barred", b.told(0, 0, 1, 2), -3);
    }

    private static void toldNot() {
        DOC.of("its LENGTH, by its square; NOT: it does not, or one is not on that WALL.");
        BoxSpider b = Boxes.of(4, 4, 4);
        b.place(0, 2, 2, 0);
        b.place(1, 4, 2, 2);
        b.place(2, 0, 2, 2);
        Boxes.type(b, "e");
        DOC.due("it does", b.told(0, 0, 1, 1), 16);
        DOC.due("the first is not", b.told(2, 0, 1, 1), -3);
        DOC.due("the second is not", b.told(0, 0, 2, 1), -3);
        DOC.due("neither is", b.told(2, 0, 2, 1), -3);
        DOC.due("each is on the other's", b.told(1, 0, 0, 1), -3);
        DOC.due("on one wall they are not", b.told(0, 0, 1, 0), -3);
    }

    private static void toldCall() {
        DOC.of("TOLD WAY. BAD: also k less than i; NOT.");
        BoxSpider b = new BoxSpider();
        b.place(7, 6, 6, 30);
        Boxes.type(b, "e");
        for (int place : Boxes.outside(0, 7)) {
            DOC.due("from place " + place, b.told(place, 0, 0, 0), -2);
            DOC.due("to place " + place, b.told(0, 0, place, 0), -2);
            DOC.due("BAD goes ahead of NOT", b.told(7, 0, place, 0), -2);
        }
        for (int k : Boxes.outside(0, 1)) {
            DOC.due("from behind " + k, b.told(0, k, 0, 1), -2);
            DOC.due("to behind " + k, b.told(0, 0, 0, k), -2);
            DOC.due("from and to behind " + k, b.told(0, k, 0, k), -2);
            DOC.due("BAD goes ahead of NOT", b.told(7, 0, 0, k), -2);
        }
        DOC.due("k less than i", b.told(0, 1, 0, 0), -2);
        DOC.due("k less than i, ahead of NOT", b.told(7, 1, 7, 0), -2);
        DOC.due("NOT", b.told(7, 0, 7, 0), -3);
    }

    // ---- snails

    private static void snailed(BoxSpider b, int right, int up, int k, int wall, int roll) {
        String what = "snail " + right + ", " + up + " behind " + k;
        DOC.due(what + ": wall", b.snail(right, up, k, 0), wall);
        DOC.due(what + ": roll", b.snail(right, up, k, 1), roll);
    }

    /** To the north east as told; to the other corners walls and rolls change places. */
    private static void mirrored(BoxSpider b, int right, int up, int[] walls, int[] rolls) {
        int[] westWall = {0, 1, 3, 2, 4, 5};
        int[] southWall = {0, 1, 2, 3, 5, 4};
        int[] westRoll = {0, 2, 1, 3, 4};
        int[] southRoll = {0, 1, 2, 4, 3};
        for (int k = 0; k < walls.length; k++) {
            int wall = walls[k];
            int roll = rolls[k];
            snailed(b, right, up, k, wall, roll);
            snailed(b, -right, up, k, westWall[wall], westRoll[roll]);
            snailed(b, right, -up, k, southWall[wall], southRoll[roll]);
            snailed(b, -right, -up, k, southWall[westWall[wall]], southRoll[westRoll[roll]]);
        }
    }

    private static void snailAtFirst() {
        DOC.of("SNAIL: THE BOX stands as ahead of all ROLLS; it begins in the middle of WALL 0");
        BoxSpider b = Boxes.of(1, 1, 1);
        Boxes.type(b, "nee");
        // The middle is a half: over y = 1 at 3/4, x = 1 at 1 1/2, y = 2 at 1 1/4, y = 3 at 1 3/4, x = 2 at 3 1/2.
        int[] walls = {0, 5, 3, 1, 2, 4};
        int[] rolls = {0, 3, 1, 3, 3, 1};
        mirrored(b, 1, 2, walls, rolls);
        b = Boxes.of(2, 4, 30);
        snailed(b, 1, 1, 1, 3, 1);
        snailed(b, -1, 1, 1, 2, 2);
        b = Boxes.of(4, 2, 30);
        snailed(b, 1, 1, 1, 5, 3);
        snailed(b, 1, -1, 1, 4, 4);
    }

    private static void snailSlopes() {
        DOC.of("goes straight on the plane (right and up: -9 to 9 each, not both 0)");
        BoxSpider b = new BoxSpider();
        DOC.due("both 0", b.snail(0, 0, 0, 0), -2);
        DOC.due("both 0, one edge on", b.snail(0, 0, 1, 1), -2);
        for (int v = -9; v <= 9; v++) {
            if (v != 0) {
                snailed(b, v, 0, 1, v > 0 ? 3 : 2, v > 0 ? 1 : 2);
                snailed(b, 0, v, 1, v > 0 ? 5 : 4, v > 0 ? 3 : 4);
            }
        }
        snailed(b, 9, 8, 1, 3, 1);
        snailed(b, 8, 9, 1, 5, 3);
        snailed(b, -9, -8, 1, 2, 2);
        snailed(b, -8, -9, 1, 4, 4);
        for (int v : Boxes.outside(-9, 9)) {
            DOC.due("right " + v, b.snail(v, 1, 1, 0), -2);
            DOC.due("up " + v, b.snail(1, v, 1, 0), -2);
            DOC.due("right " + v + " alone", b.snail(v, 0, 1, 0), -2);
            DOC.due("up " + v + " alone", b.snail(0, v, 1, 0), -2);
        }
    }

    private static void snailEdges() {
        DOC.of("the WALL behind k edges (0 to 30), the ROLL by which it comes there "
            + "(1 east, 2 west, 3 north, 4 south; 0 for none)");
        BoxSpider b = new BoxSpider();
        int[][] slopes = {{1, 0}, {-1, 0}, {0, 1}, {0, -1}};
        int[][] walls = {{0, 3, 1, 2}, {0, 2, 1, 3}, {0, 5, 1, 4}, {0, 4, 1, 5}};
        for (int i = 0; i < 4; i++) {
            int[] s = slopes[i];
            snailed(b, s[0], s[1], 0, 0, 0);
            for (int k = 1; k <= 30; k++) {
                snailed(b, s[0], s[1], k, walls[i][k % 4], i + 1);
            }
            for (int k : Boxes.outside(0, 30)) {
                snailed(b, s[0], s[1], k, -2, -2);
            }
        }
        snailed(b, 1, 1, 0, 0, 0);
    }

    private static void snailRolls() {
        DOC.of("over edge after edge, THE BOX being rolled over each");
        // From 1, 2: over x = 2 at y = 3, y = 4 at x = 3, y = 6 at x = 5, x = 8 at y = 9.
        BoxSpider b = Boxes.of(2, 4, 6);
        int[] walls = {0, 3, 5, 2, 1};
        int[] rolls = {0, 1, 3, 3, 1};
        mirrored(b, 1, 1, walls, rolls);
    }

    private static void snailCorners() {
        DOC.of("NONE, if it comes to a corner ahead of that.");
        BoxSpider b = Boxes.of(4, 4, 4);
        int[][] straight = {{1, 1}, {1, -1}, {-1, 1}, {-1, -1}, {9, 9}, {-5, 5}};
        for (int[] s : straight) {
            snailed(b, s[0], s[1], 0, 0, 0);
            snailed(b, s[0], s[1], 1, -1, -1);
            snailed(b, s[0], s[1], 30, -1, -1);
        }
        // From 2, 2 over x = 4 at y = 3; with 2 to the east it comes to x = 6, y = 4.
        b = Boxes.of(4, 4, 2);
        snailed(b, 2, 1, 1, 3, 1);
        snailed(b, 2, 1, 2, -1, -1);
        snailed(b, 2, 1, 3, -1, -1);
        snailed(b, -2, -1, 1, 2, 2);
        snailed(b, -2, -1, 2, -1, -1);
        // With 1 less or more to the east it comes by.
        b = Boxes.of(4, 4, 1);
        snailed(b, 2, 1, 2, 1, 1);
        b = Boxes.of(4, 4, 3);
        snailed(b, 2, 1, 2, 5, 3);
    }

    private static void snailBarsAside() {
        DOC.of("so that the WALL on which it goes is below (BARS aside)");
        BoxSpider b = Boxes.of(4, 4, 3);
        Boxes.openOnly(b);
        snailed(b, 1, 0, 1, 3, 1);
        snailed(b, 1, 0, 2, 1, 1);
        snailed(b, 2, 1, 2, 5, 3);
        snailed(b, 0, -1, 30, 1, 4);
    }

    private static void snailCall() {
        DOC.of("SNAIL: the WALL (what = 0), the ROLL (1); NONE. BAD.");
        BoxSpider b = new BoxSpider();
        snailed(b, 0, 1, 1, 5, 3);
        DOC.due("NONE", b.snail(1, 1, 1, 0), -1);
        for (int what : Boxes.outside(0, 1)) {
            DOC.due("snail with " + what, b.snail(1, 0, 0, what), -2);
            DOC.due("BAD goes ahead of NONE", b.snail(1, 1, 1, what), -2);
        }
        for (int k : Boxes.outside(0, 30)) {
            DOC.due("BAD goes ahead of NONE", b.snail(1, 1, k, 0), -2);
        }
    }

    // ---- threads

    private static void threadHighs() {
        DOC.of("THREAD: HIGHS (1 to 30) with which both PLACES (x, y, z as they are) lie on THE BOX");
        BoxSpider b = new BoxSpider();
        b.place(1, 6, 6, 0);
        DOC.due("on the floor: all", b.thread(1, 1, 0, 0), 30);
        DOC.due("on the floor: the least", b.thread(1, 1, 0, 1), 1);
        for (int z = 1; z <= 30; z++) {
            b.place(2, 0, 6, z);
            DOC.due("at " + z + " on a wall", b.thread(2, 2, 0, 0), 31 - z);
            DOC.due("at " + z + " on a wall: the least", b.thread(2, 2, 0, 1), z);
        }
        b.place(3, 6, 6, 30);
        DOC.due("on the roof: one", b.thread(3, 3, 0, 0), 1);
        DOC.due("on the roof: it", b.thread(3, 3, 0, 1), 30);
        b.place(4, 0, 6, 29);
        DOC.due("both have to: 6 on the roof and 1 below it", b.thread(3, 4, 49, 0), 1);
        DOC.due("both have to", b.thread(4, 3, 49, 1), 30);
        b.side(2, 1);
        b.place(5, 6, 6, 1);
        DOC.due("on the least roof: one", b.thread(5, 5, 0, 0), 1);
        DOC.due("on the least roof: it", b.thread(5, 5, 0, 1), 1);
        DOC.due("the box is as it was", b.count(4), 1);
        DOC.due("the place is as it was", b.at(5, 2), 1);
    }

    private static void threadLengths() {
        DOC.of("and their SHORTEST is a told LENGTH (0 to 9999)");
        BoxSpider b = new BoxSpider();
        DOC.due("the least length", b.thread(0, 0, 0, 0), 30);
        DOC.due("the greatest length", b.thread(0, 0, 9999, 0), 0);
        b.place(3, 0, 6, 2);
        b.place(4, 12, 6, 2);
        // Over the roof: 12 and twice what is above them; over the floor: 16; by walls 4 and 5: 24.
        DOC.due("no room above", b.thread(3, 4, 144, 0), 1);
        DOC.due("no room above", b.thread(3, 4, 144, 1), 2);
        DOC.due("one above", b.thread(3, 4, 196, 0), 1);
        DOC.due("one above", b.thread(3, 4, 196, 1), 3);
        DOC.due("over the floor", b.thread(3, 4, 256, 0), 27);
        DOC.due("one less than it is", b.thread(3, 4, 255, 0), 0);
        DOC.due("one more than it is", b.thread(3, 4, 257, 0), 0);
        for (int length : Boxes.outside(0, 9999)) {
            DOC.due("of length " + length, b.thread(0, 0, length, 0), -2);
            DOC.due("of length " + length + ": the least", b.thread(0, 0, length, 1), -2);
        }
    }

    private static void threadAnswers() {
        DOC.of("how many; the least; NONE (not how many).");
        BoxSpider b = new BoxSpider();
        b.place(1, 0, 0, 7);
        DOC.due("how many", b.thread(0, 1, 49, 0), 24);
        DOC.due("the least", b.thread(0, 1, 49, 1), 7);
        DOC.due("none: how many", b.thread(0, 1, 50, 0), 0);
        DOC.due("none: the least", b.thread(0, 1, 50, 1), -1);
        b.place(2, 6, 6, 0);
        Boxes.shut(b, 0);
        b.place(3, 0, 6, 5);
        DOC.due("without a way: how many", b.thread(2, 3, 121, 0), 0);
        DOC.due("without a way: the least", b.thread(2, 3, 121, 1), -1);
        b.bar(0, 2, 0);
        DOC.due("with a way", b.thread(2, 3, 121, 0), 26);
    }

    private static void threadCall() {
        DOC.of("THREAD: how many (what = 0), the least (1); NONE. BAD.");
        BoxSpider b = new BoxSpider();
        DOC.due("the last places", b.thread(7, 7, 0, 0), 30);
        for (int place : Boxes.outside(0, 7)) {
            DOC.due("from " + place, b.thread(place, 0, 0, 0), -2);
            DOC.due("to " + place, b.thread(0, place, 0, 0), -2);
        }
        for (int what : Boxes.outside(0, 1)) {
            DOC.due("thread with " + what, b.thread(0, 0, 0, what), -2);
            DOC.due("BAD goes ahead of NONE", b.thread(0, 0, 5, what), -2);
        }
    }

    // ---- flies

    private static void fliesHowMany() {
        DOC.of("FLIES by a SEED: n (0 to 99) come one by one, each to a PLACE by a LOT of 8: "
            + "how many come to one with a SHORTEST of no more than told from a PLACE.");
        BoxSpider b = new BoxSpider();
        DOC.due("none come", b.flies(0, 5, 0, 9999), 0);
        DOC.due("one comes", b.flies(0, 5, 1, 0), 1);
        DOC.due("the most come", b.flies(0, 5, 99, 0), 99);
        DOC.due("one less than none", b.flies(0, 5, -1, 0), -2);
        DOC.due("one more than the most", b.flies(0, 5, 100, 0), -2);
        for (int place = 0; place < 8; place++) {
            b.place(place, 0, 0, 2 * place);
        }
        int each = 0;
        for (int place = 0; place < 8; place++) {
            each += b.flies(place, 5, 99, 3);
        }
        DOC.due("each fly is near to the place to which it comes alone", each, 99);
        // Just as far counts, one less does not: from the first, the second is 4 away.
        DOC.due("just as far", b.flies(0, 5, 99, 4), b.flies(0, 5, 99, 0) + b.flies(1, 5, 99, 0));
        DOC.due("not so far", b.flies(0, 5, 99, 3), b.flies(0, 5, 99, 0));
        int near = b.flies(3, 5, 99, 0);
        b.place(3, 6, 6, 30);
        Boxes.shut(b, 1);
        DOC.due("not to one without a way", b.flies(0, 5, 99, 9999), 99 - near);
        DOC.due("but to itself", b.flies(3, 5, 99, 9999), near);
    }

    private static void fliesLots() {
        DOC.of("LOTS of m: SEED becomes 1103515245 SEED and 12345, as ints that wrap; "
            + "its upper 16 bits as a number from 0 on, modulo m.");
        int[] seeds = {0, 1, -1, 5, 12345, -12345, Boxes.LEAST, Boxes.GREATEST, 1 << 16, 65535};
        BigInteger all = BigInteger.ONE.shiftLeft(32);
        for (int seed : seeds) {
            BoxSpider b = new BoxSpider();
            for (int place = 0; place < 8; place++) {
                b.place(place, 0, 0, place);
            }
            BigInteger state = BigInteger.valueOf(seed);
            int[] came = new int[8];
            for (int n = 1; n <= 60; n++) {
                state = state.multiply(BigInteger.valueOf(1103515245)).add(BigInteger.valueOf(12345)).mod(all);
                int lot = state.shiftRight(16).mod(BigInteger.valueOf(8)).intValue();
                came[lot]++;
                DOC.due("seed " + seed + ", fly " + n, b.flies(lot, seed, n, 0), came[lot]);
            }
            for (int place = 0; place < 8; place++) {
                DOC.due("seed " + seed + ", to " + place, b.flies(place, seed, 60, 0), came[place]);
            }
            DOC.due("the same again", b.flies(2, seed, 60, 0), came[2]);
        }
    }

    private static void fliesCall() {
        DOC.of("FLIES. BAD.");
        BoxSpider b = new BoxSpider();
        DOC.due("from the last", b.flies(7, 0, 99, 9999), 99);
        for (int place : Boxes.outside(0, 7)) {
            DOC.due("from " + place, b.flies(place, 0, 5, 5), -2);
            DOC.due("from " + place + ", none come", b.flies(place, 0, 0, 5), -2);
        }
        for (int n : Boxes.outside(0, 99)) {
            DOC.due(n + " flies", b.flies(0, 0, n, 5), -2);
        }
        // The document tells no bounds here: they are those of WITHIN.
        for (int most : Boxes.outside(0, 9999)) {
            DOC.due("no more than " + most, b.flies(0, 0, 5, most), -2);
        }
    }
}
