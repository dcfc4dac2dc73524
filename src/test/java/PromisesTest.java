// Each promise of the document by answers that were worked out by hand.
public final class PromisesTest {
    private static final int ANY_BAD = -10002, ANY_NOT = -10003;
    private static final int NULL = -11, INDEX = -12, CAST = -13, STORE = -14, SIZE = -15;
    private static final int LEAST = Integer.MIN_VALUE;
    private static int wrong = 0;

    private static void due(String call, long got, long want) {
        if (got != want) {
            wrong++;
            System.out.println(call + " answered " + got + ", due is " + want);
        }
    }

    public static void main(String[] args) {
        promise1NewObject();
        promise2Side();
        promise3Place();
        promise4At();
        promise5Read();
        promise6Type();
        promises7To9Rolls();
        promise10Bar();
        promise11LaidOut();
        promise12Lies();
        promises13To15Shortest();
        promise15Rows();
        promises16And17();
        promise18Nearer();
        promise19Wires();
        promise20Within();
        promise21Told();
        promise22Snail();
        promise23Thread();
        promise24Flies();
        promise25Sheet();
        promise26Lose();
        promises27And28();
        promise29Copy();
        promise30Write();
        promise31Count();
        promise32Digest();
        refusalsChangeNothing();
        System.out.println(wrong == 0 ? "all promises hold" : wrong + " answers are not as due");
        if (wrong != 0) {
            System.exit(1);
        }
    }

    private static void sides(BoxSpider b, int l, int w, int h) {
        b.side(0, l);
        b.side(1, w);
        b.side(2, h);
    }

    private static void row(String name, BoxSpider b, int from, int to, int... walls) {
        for (int i = 0; i < 5; i++) {
            due(name + " face " + i, b.face(from, to, i), i < walls.length ? walls[i] : -1);
        }
    }

    private static void promise1NewObject() {
        BoxSpider b = new BoxSpider();
        due("1 LONG", b.count(2), 12);
        due("1 WIDE", b.count(3), 12);
        due("1 HIGH", b.count(4), 30);
        due("1 rolls", b.count(0), 0);
        due("1 bytes", b.count(1), 0);
        due("1 bars", b.count(5), 0);
        due("1 unlike places", b.count(6), 1);
        due("1 wall below", b.count(7), 0);
        due("1 finding", b.count(8), 0);
        for (int p = 0; p < 8; p++) {
            for (int what = 0; what < 3; what++) {
                due("1 at", b.at(p, what), 0);
            }
        }
        for (int s = 0; s < 4; s++) {
            due("1 sheet is lost", b.lose(s), NULL);
        }
    }

    private static void promise2Side() {
        BoxSpider b = new BoxSpider();
        due("2 LONG", b.side(0, 30), 12);
        due("2 WIDE", b.side(1, 1), 12);
        due("2 HIGH", b.side(2, 7), 30);
        due("2 again", b.side(0, 30), 30);
        due("2 was", b.side(2, 8), 7);
        due("2 now LONG", b.count(2), 30);
        due("2 now WIDE", b.count(3), 1);
        due("2 now HIGH", b.count(4), 8);
        int[][] bad = {{-1, 5}, {3, 5}, {0, 0}, {1, 31}, {2, -1}, {LEAST, 5}, {0, Integer.MAX_VALUE}};
        for (int[] c : bad) {
            due("2 bad", b.side(c[0], c[1]), -2);
        }
        due("2 unchanged", b.count(2), 30);
        placesAreLost();
    }

    private static void placesAreLost() {
        BoxSpider b = new BoxSpider();
        b.place(0, 12, 5, 9);
        b.place(1, 0, 5, 9);
        b.place(2, 10, 0, 3);
        b.place(3, 3, 4, 30);
        b.place(4, 12, 12, 9);
        b.side(0, 10);
        due("2 beyond the side", b.at(0, 1), 0);
        due("2 beyond the side z", b.at(0, 2), 0);
        due("2 still at wall 2", b.at(1, 2), 9);
        due("2 now at wall 3 too", b.at(2, 3), 1 << 3 | 1 << 4);
        due("2 at the top", b.at(3, 2), 30);
        due("2 corner beyond", b.at(4, 1), 0);
        b.side(2, 30);
        due("2 the same HIGH", b.at(3, 2), 30);
        b.side(2, 29);
        due("2 above the top", b.at(3, 0), 0);
        b.place(5, 10, 6, 4);
        b.side(0, 11);
        due("2 now inside", b.at(5, 0), 0);
        due("2 now inside y", b.at(5, 1), 0);
    }

    private static void promise3Place() {
        BoxSpider b = new BoxSpider();
        due("3 on wall 3", b.place(7, 12, 6, 9), 1);
        due("3 x", b.at(7, 0), 12);
        due("3 y", b.at(7, 1), 6);
        due("3 z", b.at(7, 2), 9);
        due("3 corner", b.place(0, 12, 12, 30), 1);
        int[][] bad = {{-1, 0, 0, 0}, {8, 0, 0, 0}, {7, 1, 1, 1}, {7, 11, 11, 29}, {7, 13, 0, 0}, {7, 0, 13, 0},
            {7, 0, 0, 31}, {7, -1, 0, 0}, {7, 0, -1, 0}, {7, 0, 0, -1}, {7, LEAST, 0, 0},
            {7, Integer.MAX_VALUE, 0, 0}, {7, 0, LEAST, 0}, {7, 0, 0, LEAST}, {7, 0, 0, Integer.MAX_VALUE}};
        for (int[] c : bad) {
            due("3 bad", b.place(c[0], c[1], c[2], c[3]), -2);
        }
        due("3 unchanged", b.at(7, 0), 12);
        due("3 unchanged z", b.at(7, 2), 9);
    }

    private static void promise4At() {
        BoxSpider b = new BoxSpider();
        due("4 corner 0", b.at(0, 3), 1 | 4 | 16);
        b.place(0, 12, 12, 30);
        due("4 corner beyond", b.at(0, 3), 2 | 8 | 32);
        b.place(0, 5, 12, 7);
        due("4 wall 5", b.at(0, 3), 32);
        b.place(0, 12, 0, 7);
        due("4 edge", b.at(0, 3), 8 | 16);
        int[][] bad = {{-1, 0}, {8, 0}, {0, -1}, {0, 4}, {LEAST, 3}};
        for (int[] c : bad) {
            due("4 bad", b.at(c[0], c[1]), -2);
        }
    }

    private static void promise5Read() {
        BoxSpider b = new BoxSpider();
        due("5 lost", b.read(3), NULL);
        due("5 told", b.count(8), 1);
        due("5 bad", b.read(4), -2);
        due("5 bad below", b.read(-1), -2);
        b.sheet(0, 2, 8);
        int[] items = {12, 6, 9, 5, 5, 30, 12, 12};
        for (int i = 0; i < 8; i++) {
            b.lay(0, 2, i, items[i]);
        }
        due("5 two whole", b.read(0), 2);
        due("5 x", b.at(0, 0), 12);
        due("5 z", b.at(1, 2), 30);
        due("5 third is not whole", b.at(2, 0), 0);
        b.sheet(1, 0, 60);
        due("5 eight at most", b.read(1), 8);
        due("5 all are there", b.count(6), 1);
        b.sheet(2, 0, 9);
        b.lay(2, 0, 0, 12);
        b.lay(2, 0, 3, -1);
        b.lay(2, 0, 6, 3);
        due("5 ends at the wrong one", b.read(2), 1);
        due("5 the first", b.at(0, 0), 12);
        due("5 none behind it", b.at(2, 0), 0);
        b.sheet(2, 0, 2);
        due("5 none whole", b.read(2), 0);
        b.sheet(2, 0, 0);
        due("5 empty", b.read(2), 0);
    }

    private static void promise6Type() {
        BoxSpider b = new BoxSpider();
        due("6 bad", b.type(-1), -2);
        due("6 bad above", b.type(256), -2);
        due("6 none came", b.count(1), 0);
        due("6 least", b.type(0), 1);
        due("6 greatest", b.type(255), 2);
        for (int i = 3; i <= 40; i++) {
            due("6 type", b.type('e'), i);
        }
        due("6 full", b.type('e'), -4);
        due("6 bad first", b.type(256), -2);
        due("6 still 40", b.count(1), 40);
        due("6 fault", b.fault(), 0);
    }

    private static void promises7To9Rolls() {
        BoxSpider b = new BoxSpider();
        due("7 none", b.undo(), -3);
        due("8 empty", b.wipe(), 0);
        due("9 none", b.fault(), -1);
        Boxes.type(b, "ewns");
        due("9 all letters", b.fault(), -1);
        b.type('E');
        due("9 capital", b.fault(), 4);
        b.type(' ');
        due("9 the first", b.fault(), 4);
        due("7 undo", b.undo(), 5);
        due("7 undo", b.undo(), 4);
        due("9 mended", b.fault(), -1);
        due("7 rolls again", b.count(0), 4);
        due("8 had", b.wipe(), 4);
        due("8 is empty", b.count(1), 0);
        due("7 none left", b.undo(), -3);
        Boxes.type(b, "eeeeeeeeeeeeeeeeeeee");
        due("9 twenty", b.fault(), -1);
        b.type('e');
        due("9 the 21st", b.fault(), 20);
        b.type('x');
        due("9 the 21st first", b.fault(), 20);
        due("8 had 22", b.wipe(), 22);
        b.type('n');
        due("8 anew", b.laidOut(1, 0), 5);
    }

    private static void promise10Bar() {
        BoxSpider b = new BoxSpider();
        due("10 bar", b.bar(0, 5, 1), 0);
        due("10 was", b.bar(5, 0, 1), 1);
        due("10 one edge", b.count(5), 1);
        due("10 undone", b.bar(5, 0, 0), 1);
        due("10 was not", b.bar(0, 5, 0), 0);
        int[][] bad = {{0, 1, 1}, {1, 0, 1}, {2, 3, 1}, {4, 5, 0}, {2, 2, 1}, {-1, 0, 1}, {0, 6, 1}, {6, 0, 1},
            {0, 2, -1}, {0, 2, 2}, {0, -1, 1}, {LEAST, 2, 1}, {2, Integer.MAX_VALUE, 1}};
        for (int[] c : bad) {
            due("10 bad", b.bar(c[0], c[1], c[2]), -2);
        }
        due("10 none", b.count(5), 0);
        int edges = 0;
        for (int i = 0; i < 6; i++) {
            for (int j = i + 1; j < 6; j++) {
                if (b.bar(i, j, 1) == 0) {
                    edges++;
                }
            }
        }
        due("10 twelve edges", edges, 12);
        due("10 twelve barred", b.count(5), 12);
    }

    private static void laid(String name, BoxSpider b, int k, int... want) {
        for (int what = 0; what < 5; what++) {
            due(name + " laid " + what, b.laidOut(k, what), want[what]);
        }
    }

    private static void promise11LaidOut() {
        BoxSpider b = new BoxSpider();
        sides(b, 2, 3, 5);
        laid("11 at first", b, 0, 0, 0, 0, 2, 3);
        Boxes.type(b, "wsen");
        laid("11 w", b, 1, 2, -5, 0, 5, 3);
        laid("11 ws", b, 2, 4, -5, -2, 5, 2);
        laid("11 wse", b, 3, 0, 0, -2, 3, 2);
        laid("11 wsen", b, 4, 2, 0, 0, 3, 5);
        b.wipe();
        Boxes.type(b, "nne");
        laid("11 n", b, 1, 5, 0, 3, 2, 5);
        laid("11 nn", b, 2, 1, 0, 8, 2, 3);
        laid("11 nne", b, 3, 3, 2, 8, 5, 3);
        due("11 bad k", b.laidOut(4, 0), ANY_BAD);
        due("11 bad k below", b.laidOut(-1, 0), ANY_BAD);
        due("11 bad what", b.laidOut(0, 5), ANY_BAD);
        due("11 bad what below", b.laidOut(0, -1), ANY_BAD);
        b.type('?');
        due("11 no rolls with a fault", b.laidOut(1, 0), ANY_BAD);
        laid("11 behind none", b, 0, 0, 0, 0, 2, 3);
    }

    private static void promise12Lies() {
        BoxSpider b = new BoxSpider();
        sides(b, 2, 3, 5);
        b.place(0, 1, 3, 4);
        due("12 not below", b.lies(0, 0, 0), ANY_NOT);
        Boxes.type(b, "nw");
        due("12 x", b.lies(0, 1, 0), 1);
        due("12 y", b.lies(0, 1, 1), 7);
        due("12 not on 2", b.lies(0, 2, 0), ANY_NOT);
        b.place(1, 0, 1, 4);
        due("12 turned x", b.lies(1, 2, 0), -2);
        due("12 turned y", b.lies(1, 2, 1), 7);
        int[][] bad = {{-1, 0, 0}, {8, 0, 0}, {0, -1, 0}, {0, 3, 0}, {0, 0, 2}, {0, 0, -1}};
        for (int[] c : bad) {
            due("12 bad", b.lies(c[0], c[1], c[2]), ANY_BAD);
        }
    }

    private static void promises13To15Shortest() {
        BoxSpider b = new BoxSpider();
        // Dudeney's room: the spider and the fly, 30 by 12 by 12, 40 apart over five of six walls.
        b.place(0, 6, 11, 0);
        b.place(1, 6, 1, 30);
        due("13 spider and fly", b.shortest(0, 1), 1600);
        due("13 fly and spider", b.shortest(1, 0), 1600);
        due("14 two ways", b.ways(0, 1), 2);
        row("15 five walls", b, 0, 1, 0, 5, 2, 4, 1);
        row("15 back", b, 1, 0, 1, 4, 2, 5, 0);
        due("13 itself", b.shortest(0, 0), 0);
        due("14 itself", b.ways(0, 0), 1);
        row("15 itself", b, 0, 0, 0);
        b.place(2, 3, 4, 0);
        due("13 on one wall", b.shortest(0, 2), 9 + 49);
        // On an edge: each of its walls alone and both, one behind the other.
        b.place(3, 12, 0, 4);
        b.place(4, 12, 0, 9);
        due("13 along an edge", b.shortest(3, 4), 25);
        due("14 along an edge", b.ways(3, 4), 4);
        row("15 along an edge", b, 3, 4, 3);
        b.bar(3, 4, 1);
        due("14 along a barred edge", b.ways(3, 4), 2);
        due("13 along a barred edge", b.shortest(3, 4), 25);
        int[][] bad = {{-1, 0}, {0, -1}, {8, 0}, {0, 8}, {LEAST, 0}, {0, LEAST}};
        for (int[] c : bad) {
            due("13 bad", b.shortest(c[0], c[1]), -2);
            due("14 bad", b.ways(c[0], c[1]), -2);
            due("15 bad", b.face(c[0], c[1], 0), -2);
        }
        due("15 bad i", b.face(0, 1, 5), -2);
        due("15 bad i below", b.face(0, 1, -1), -2);
        for (int wall = 2; wall < 6; wall++) {
            b.bar(0, wall, 1);
        }
        due("13 no way", b.shortest(0, 1), -1);
        due("14 no way", b.ways(0, 1), 0);
        row("15 no way", b, 0, 1);
        due("13 still on wall 0", b.shortest(0, 2), 58);
    }

    private static void promise15Rows() {
        BoxSpider b = new BoxSpider();
        sides(b, 4, 4, 4);
        b.place(0, 2, 2, 0);
        b.place(1, 2, 2, 4);
        due("13 over a cube", b.shortest(0, 1), 64);
        due("14 over a cube", b.ways(0, 1), 4);
        row("15 the least row", b, 0, 1, 0, 2, 1);
        b.bar(0, 2, 1);
        row("15 the next row", b, 0, 1, 0, 3, 1);
        b.bar(0, 3, 1);
        b.bar(1, 4, 1);
        due("14 one is left", b.ways(0, 1), 1);
        row("15 the last row", b, 0, 1, 0, 5, 1);
        // Across a corner: a longer row may begin with a lesser number, but fewer walls go first.
        b = new BoxSpider();
        b.place(1, 12, 0, 0);
        b.place(2, 12, 3, 4);
        due("13 from a corner", b.shortest(1, 2), 25);
        row("15 fewest walls", b, 1, 2, 3);
        due("14 from a corner", b.ways(1, 2), 5);
    }

    private static void promises16And17() {
        BoxSpider b = new BoxSpider();
        due("16 all alike", b.farthest(3), 0);
        due("17 all alike", b.sit(), 0);
        b.place(0, 0, 0, 30);
        b.place(4, 0, 0, 15);
        b.place(5, 0, 0, 15);
        due("16 up", b.farthest(7), 0);
        due("16 down", b.farthest(0), 1);
        due("16 from the middle", b.farthest(4), 0);
        due("17 in the middle", b.sit(), 4);
        int[] bad = {-1, 8, LEAST};
        for (int place : bad) {
            due("16 bad", b.farthest(place), -2);
        }
        b = new BoxSpider();
        b.place(6, 6, 6, 0);
        b.place(7, 6, 6, 30);
        for (int wall = 2; wall < 6; wall++) {
            b.bar(1, wall, 1);
        }
        due("16 not one without a way", b.farthest(6), 0);
        due("16 itself", b.farthest(7), 7);
        due("17 none", b.sit(), -1);
        for (int p = 0; p < 7; p++) {
            b.place(p, 0, 0, 30);
        }
        // From a corner at the top all are on wall 1: no edge has to be crossed.
        due("17 on the barred wall", b.sit(), 0);
    }

    private static void promise18Nearer() {
        BoxSpider b = new BoxSpider();
        b.place(0, 0, 0, 0);
        b.place(1, 0, 0, 30);
        b.place(2, 0, 0, 15);
        b.place(3, 0, 0, 14);
        b.place(4, 0, 0, 16);
        due("18 first", b.nearer(0, 1), 1 | 8 | 0xe0);
        due("18 second", b.nearer(1, 0), 2 | 16);
        due("18 alike", b.nearer(5, 6), 0);
        int[][] bad = {{0, 0}, {7, 7}, {-1, 0}, {0, 8}, {8, 0}, {0, -1}};
        for (int[] c : bad) {
            due("18 bad", b.nearer(c[0], c[1]), -2);
        }
        b = new BoxSpider();
        b.place(1, 6, 6, 30);
        for (int wall = 2; wall < 6; wall++) {
            b.bar(1, wall, 1);
        }
        due("18 without a way is behind", b.nearer(0, 1), 0xfd);
        due("18 but to itself", b.nearer(1, 0), 2);
    }

    private static void wired(String name, BoxSpider b, int places, int greatest, int... pairs) {
        due(name + " how many", b.wires(places, -1), pairs.length);
        due(name + " greatest", b.wires(places, -2), greatest);
        for (int i = 0; i < pairs.length; i++) {
            due(name + " wire " + i, b.wires(places, i), pairs[i]);
        }
        due(name + " behind", b.wires(places, pairs.length), -1);
        due(name + " far behind", b.wires(places, Integer.MAX_VALUE), -1);
    }

    private static void promise19Wires() {
        BoxSpider b = new BoxSpider();
        wired("19 all alike", b, 255, 0, 1, 2, 3, 4, 5, 6, 7);
        wired("19 no place", b, 0, 0);
        wired("19 one place", b, 16, 0);
        int[] high = {0, 10, 4, 30, 19, 1, 5, 29};
        for (int p = 0; p < 8; p++) {
            b.place(p, 0, 0, high[p]);
        }
        wired("19 on an edge", b, 255, 100, 5, 8 * 2 + 6, 8 * 3 + 7, 8 * 2 + 5, 8 + 6, 8 + 4, 8 * 4 + 7);
        wired("19 told ones", b, 1 | 2 | 8, 400, 1, 8 + 3);
        wired("19 the last two", b, 0xc0, 576, 8 * 6 + 7);
        int[][] bad = {{-1, 0}, {256, 0}, {0, -3}, {255, LEAST}, {LEAST, -1}};
        for (int[] c : bad) {
            due("19 bad", b.wires(c[0], c[1]), -2);
        }
        b = new BoxSpider();
        b.place(1, 6, 6, 30);
        b.place(3, 6, 6, 30);
        for (int wall = 2; wall < 6; wall++) {
            b.bar(1, wall, 1);
        }
        wired("19 two groups", b, 255, 0, 2, 4, 5, 6, 7, 8 + 3);
    }

    private static void promise20Within() {
        BoxSpider b = new BoxSpider();
        b.place(1, 3, 4, 0);
        b.place(2, 0, 5, 0);
        b.place(3, 0, 6, 0);
        due("20 itself", b.within(1, 0), 1);
        due("20 five", b.within(0, 25), 7);
        due("20 less", b.within(0, 24), 5);
        due("20 all", b.within(0, 9999), 8);
        int[][] bad = {{-1, 0}, {8, 0}, {0, -1}, {0, 10000}};
        for (int[] c : bad) {
            due("20 bad", b.within(c[0], c[1]), -2);
        }
        b.place(4, 6, 6, 30);
        for (int wall = 2; wall < 6; wall++) {
            b.bar(1, wall, 1);
        }
        due("20 not one without a way", b.within(0, 9999), 7);
    }

    private static void promise21Told() {
        BoxSpider b = new BoxSpider();
        sides(b, 4, 4, 4);
        b.place(0, 2, 2, 0);
        b.place(1, 4, 2, 2);
        b.place(2, 2, 4, 2);
        b.place(3, 4, 4, 0);
        b.place(4, 0, 0, 0);
        Boxes.type(b, "en");
        due("21 same wall", b.told(0, 0, 4, 0), 8);
        due("21 over the edge", b.told(0, 0, 1, 1), 16);
        due("21 from a later one", b.told(1, 1, 2, 2), 16);
        due("21 two edges", b.told(0, 0, 2, 2), 4 * 4 + 4 * 4);
        due("21 through the corner", b.told(3, 0, 3, 2), 0);
        due("21 not on it", b.told(1, 0, 1, 1), -3);
        due("21 end is not on it", b.told(0, 0, 2, 1), -3);
        b.place(5, 0, 4, 4);
        b.place(6, 4, 4, 4);
        due("21 over the corner", b.told(0, 0, 6, 2), 36 + 4);
        due("21 outside", b.told(4, 0, 5, 2), 64 + 64);
        b.place(7, 1, 4, 0);
        due("21 misses the edge", b.told(0, 0, 7, 2), -3);
        int[][] bad = {{-1, 0, 0, 0}, {8, 0, 0, 0}, {0, 0, 8, 0}, {0, 0, -1, 0}, {0, -1, 0, 0}, {0, 0, 0, 3},
            {0, 1, 0, 0}, {0, 3, 0, 3}, {0, LEAST, 0, LEAST}};
        for (int[] c : bad) {
            due("21 bad", b.told(c[0], c[1], c[2], c[3]), -2);
        }
        b.bar(3, 5, 1);
        due("21 barred", b.told(0, 0, 2, 2), -3);
        due("21 ahead of it", b.told(0, 0, 1, 1), 16);
        b.wipe();
        b.bar(3, 5, 0);
        Boxes.type(b, "eeeeeeee");
        due("21 walls twice", b.told(0, 0, 0, 8), 32 * 32);
        due("21 round once", b.told(0, 4, 0, 8), 16 * 16);
        b.type('e');
        b.type('w');
        due("21 to and fro", b.told(0, 8, 0, 10), -3);
        due("21 at the edge to and fro", b.told(3, 8, 3, 10), 0);
    }

    private static void snailed(String name, BoxSpider b, int right, int up, int k, int wall, int roll) {
        due(name + " wall", b.snail(right, up, k, 0), wall);
        due(name + " roll", b.snail(right, up, k, 1), roll);
    }

    private static void promise22Snail() {
        BoxSpider b = new BoxSpider();
        int[] east = {0, 3, 1, 2};
        int[] west = {0, 2, 1, 3};
        int[] north = {0, 5, 1, 4};
        int[] south = {0, 4, 1, 5};
        for (int k = 1; k <= 30; k++) {
            snailed("22 east", b, 1, 0, k, east[k % 4], 1);
            snailed("22 west", b, -9, 0, k, west[k % 4], 2);
            snailed("22 north", b, 0, 9, k, north[k % 4], 3);
            snailed("22 south", b, 0, -1, k, south[k % 4], 4);
        }
        snailed("22 stands", b, 3, 5, 0, 0, 0);
        snailed("22 corner", b, 1, 1, 1, -1, -1);
        sides(b, 2, 4, 6);
        // From 1, 2: over x = 2 at y = 3, over y = 4 at x = 3, over y = 6 at x = 5.
        snailed("22 first edge", b, 1, 1, 1, 3, 1);
        snailed("22 second edge", b, 1, 1, 2, 5, 3);
        snailed("22 third edge", b, 1, 1, 3, 2, 3);
        b.bar(0, 3, 1);
        snailed("22 bars aside", b, 1, 1, 2, 5, 3);
        sides(b, 4, 4, 3);
        // From 2, 2: over x = 4 at y = 3, then to x = 6, y = 4: the edge, as it is 3 wide.
        snailed("22 wide", b, 2, 1, 2, 5, 3);
        sides(b, 4, 4, 2);
        snailed("22 ahead of a corner", b, 2, 1, 1, 3, 1);
        snailed("22 at a corner", b, 2, 1, 2, -1, -1);
        snailed("22 behind a corner", b, -2, 1, 30, -1, -1);
        int[][] bad = {{0, 0, 0, 0}, {10, 0, 0, 0}, {-10, 0, 0, 0}, {0, 10, 0, 0}, {0, -10, 0, 0}, {1, 0, -1, 0},
            {1, 0, 31, 0}, {1, 0, 0, 2}, {1, 0, 0, -1}, {LEAST, 1, 1, 1}};
        for (int[] c : bad) {
            due("22 bad", b.snail(c[0], c[1], c[2], c[3]), -2);
        }
    }

    private static void promise23Thread() {
        BoxSpider b = new BoxSpider();
        b.place(0, 0, 0, 0);
        b.place(1, 0, 0, 7);
        due("23 how many", b.thread(0, 1, 49, 0), 24);
        due("23 the least", b.thread(0, 1, 49, 1), 7);
        due("23 no such length", b.thread(0, 1, 48, 0), 0);
        due("23 no such least", b.thread(0, 1, 48, 1), -1);
        b.place(2, 6, 6, 30);
        due("23 only if it is so high", b.thread(2, 2, 0, 0), 1);
        due("23 so high", b.thread(2, 2, 0, 1), 30);
        // Low boxes: 0, 6, z and 12, 6, z are joined over the floor or the roof.
        b.place(3, 0, 6, 2);
        b.place(4, 12, 6, 2);
        due("23 over the roof or the floor", b.thread(3, 4, 256, 1), 4);
        due("23 only the roof", b.thread(3, 4, 144, 1), 2);
        due("23 one above", b.thread(3, 4, 14 * 14, 1), 3);
        due("23 the box is as it was", b.count(4), 30);
        due("23 the place too", b.at(2, 2), 30);
        b.bar(2, 0, 1);
        b.bar(2, 1, 1);
        due("23 barred", b.thread(3, 4, 256, 0), 0);
        int[][] bad = {{-1, 0, 0, 0}, {8, 0, 0, 0}, {0, -1, 0, 0}, {0, 8, 0, 0}, {0, 0, -1, 0}, {0, 0, 10000, 0},
            {0, 0, 0, -1}, {0, 0, 0, 2}};
        for (int[] c : bad) {
            due("23 bad", b.thread(c[0], c[1], c[2], c[3]), -2);
        }
    }

    private static void promise24Flies() {
        int[] seeds = {0, 7, -1, LEAST, Integer.MAX_VALUE, 12345};
        for (int seed : seeds) {
            BoxSpider b = new BoxSpider();
            for (int p = 0; p < 8; p++) {
                b.place(p, 0, 0, p);
            }
            long state = seed & 0xffffffffL;
            int near = 0;
            for (int n = 0; n <= 99; n++) {
                due("24 flies", b.flies(2, seed, n, 4), near);
                state = (state * 1103515245L + 12345L) & 0xffffffffL;
                int lot = (int) ((state / 65536) % 8);
                near += (lot - 2) * (lot - 2) <= 4 ? 1 : 0;
            }
        }
        BoxSpider b = new BoxSpider();
        int[][] bad = {{-1, 0, 0, 0}, {8, 0, 0, 0}, {0, 0, -1, 0}, {0, 0, 100, 0}, {0, 0, 1, -1}, {0, 0, 1, 10000}};
        for (int[] c : bad) {
            due("24 bad", b.flies(c[0], c[1], c[2], c[3]), -2);
        }
    }

    private static void promise25Sheet() {
        BoxSpider b = new BoxSpider();
        due("25 sixty", b.sheet(0, 2, 60), 60);
        due("25 none", b.sheet(1, 0, 0), 0);
        int[][] bad = {{-1, 0, 1}, {4, 0, 1}, {0, -1, 1}, {0, 3, 1}, {0, 0, 61}, {4, 0, -1}, {0, 3, -1},
            {0, 0, Integer.MAX_VALUE}};
        for (int[] c : bad) {
            due("25 bad", b.sheet(c[0], c[1], c[2]), -2);
        }
        due("25 no finding yet", b.count(8), 0);
        due("25 below 0", b.sheet(0, 2, -1), SIZE);
        due("25 least", b.sheet(0, 2, LEAST), SIZE);
        due("25 told", b.count(8), 5);
        b.lay(0, 2, 59, 77);
        due("25 it is as it was", b.get(0, 2, 59), 77);
        due("25 anew", b.sheet(0, 2, 60), 60);
        due("25 new items are 0", b.get(0, 2, 59), 0);
        due("25 other form", b.sheet(0, 1, 3), 3);
        due("25 other form told", b.lay(0, 2, 0, 1), CAST);
    }

    private static void promise26Lose() {
        BoxSpider b = new BoxSpider();
        b.sheet(2, 1, 17);
        due("26 had", b.lose(2), 17);
        due("26 lost", b.lose(2), NULL);
        due("26 told", b.count(8), 1);
        due("26 bad", b.lose(4), -2);
        due("26 bad below", b.lose(-1), -2);
        b.sheet(2, 1, 0);
        due("26 had none", b.lose(2), 0);
    }

    private static void promises27And28() {
        BoxSpider b = new BoxSpider();
        due("27 lost", b.lay(0, 0, 0, 1), NULL);
        due("28 lost", b.get(0, 0, 0), LEAST);
        int[] values = {0, 1, -1, 127, 128, 255, 256, 32767, 32768, 65535, 65536, LEAST, Integer.MAX_VALUE};
        for (int form = 0; form < 3; form++) {
            b.sheet(form, form, 2);
            for (int v : values) {
                due("27 lay", b.lay(form, form, 1, v), 1);
                due("28 get", b.get(form, form, 1), form == 0 ? (byte) v : form == 1 ? (short) v : v);
                due("28 other item", b.get(form, form, 0), 0);
            }
            int other = (form + 1) % 3;
            due("27 cast", b.lay(form, other, 0, 1), CAST);
            due("27 cast told", b.count(8), 3);
            due("27 cast ahead of index", b.lay(form, other, 2, 1), CAST);
            due("27 index", b.lay(form, form, 2, 1), INDEX);
            due("27 index told", b.count(8), 2);
            due("27 index below", b.lay(form, form, -1, 1), INDEX);
            due("28 cast", b.get(form, other, 0), LEAST);
            due("28 cast told", b.count(8), 3);
            due("28 cast ahead of index", b.get(form, other, 9), LEAST);
            due("28 still cast", b.count(8), 3);
            due("28 index", b.get(form, form, LEAST), LEAST);
            due("28 index told", b.count(8), 2);
        }
        due("28 null", b.get(3, 0, 0), LEAST);
        due("28 null told", b.count(8), 1);
        int[][] bad = {{-1, 0}, {4, 0}, {0, -1}, {0, 3}, {3, 3}};
        b.lay(2, 1, 0, 0);
        for (int[] c : bad) {
            due("27 bad", b.lay(c[0], c[1], 0, 0), -2);
            due("28 bad", b.get(c[0], c[1], 0), LEAST);
            due("28 bad is no finding", b.count(8), 3);
        }
    }

    private static void items(String name, BoxSpider b, int s, int... want) {
        for (int i = 0; i < want.length; i++) {
            due(name + " item " + i, b.get(s, 1, i), want[i]);
        }
    }

    private static void promise29Copy() {
        BoxSpider b = new BoxSpider();
        b.sheet(0, 1, 5);
        for (int i = 0; i < 5; i++) {
            b.lay(0, 1, i, i + 1);
        }
        due("29 null target", b.copy(0, 0, 1, 0, 1), NULL);
        due("29 null source", b.copy(1, 0, 0, 0, 1), NULL);
        due("29 null ahead of index", b.copy(1, -1, 0, 0, 1), NULL);
        b.sheet(1, 1, 3);
        due("29 copy", b.copy(0, 2, 1, 1, 2), 1);
        items("29 copied", b, 1, 0, 3, 4);
        due("29 up", b.copy(0, 0, 0, 1, 4), 1);
        items("29 as they were", b, 0, 1, 1, 2, 3, 4);
        due("29 down", b.copy(0, 1, 0, 0, 4), 1);
        items("29 as they were", b, 0, 1, 2, 3, 4, 4);
        due("29 none", b.copy(0, 5, 1, 3, 0), 1);
        int[][] index = {{0, -1, 1, 0, 1}, {0, 0, 1, -1, 1}, {0, 0, 1, 0, -1}, {0, 4, 1, 0, 2}, {0, 0, 1, 2, 2},
            {0, 6, 1, 0, 0}, {0, 0, 1, 4, 0}, {0, 1, 1, 0, Integer.MAX_VALUE}, {0, Integer.MAX_VALUE, 1, 0, 1},
            {0, 0, 1, LEAST, 1}, {0, 0, 1, 0, LEAST}};
        for (int[] c : index) {
            due("29 index", b.copy(c[0], c[1], c[2], c[3], c[4]), INDEX);
            due("29 index told", b.count(8), 2);
        }
        b.sheet(2, 2, 5);
        due("29 store", b.copy(0, 0, 2, 0, 1), STORE);
        due("29 store told", b.count(8), 4);
        due("29 store ahead of index", b.copy(2, 9, 0, 0, 1), STORE);
        due("29 store of none", b.copy(2, 0, 0, 0, 0), STORE);
        int[][] bad = {{-1, 0}, {4, 0}, {0, -1}, {0, 4}, {3, 4}};
        for (int[] c : bad) {
            due("29 bad", b.copy(c[0], 0, c[1], 0, 1), -2);
        }
        items("29 unchanged", b, 0, 1, 2, 3, 4, 4);
    }

    private static void promise30Write() {
        BoxSpider b = new BoxSpider();
        for (int p = 0; p < 7; p++) {
            b.place(p, 0, 0, p * 5);
        }
        b.place(7, 6, 6, 30);
        for (int wall = 2; wall < 6; wall++) {
            b.bar(1, wall, 1);
        }
        due("30 null", b.write(0, 0), NULL);
        due("30 told", b.count(8), 1);
        b.sheet(0, 2, 10);
        b.lay(0, 2, 8, 99);
        due("30 eight at most", b.write(0, 0), 8);
        for (int p = 0; p < 7; p++) {
            due("30 length", b.get(0, 2, p), 25 * p * p);
        }
        due("30 no way", b.get(0, 2, 7), -1);
        due("30 not behind them", b.get(0, 2, 8), 99);
        b.sheet(1, 0, 5);
        due("30 as many as items", b.write(0, 1), 5);
        due("30 lowest bits", b.get(1, 0, 3), (byte) 225);
        due("30 lowest bits of more", b.get(1, 0, 4), (byte) 400);
        b.sheet(1, 1, 0);
        due("30 none", b.write(0, 1), 0);
        int[][] bad = {{-1, 0}, {8, 0}, {0, -1}, {0, 4}, {8, 2}};
        for (int[] c : bad) {
            due("30 bad", b.write(c[0], c[1]), -2);
        }
    }

    private static void promise31Count() {
        BoxSpider b = new BoxSpider();
        sides(b, 3, 4, 5);
        Boxes.type(b, "en");
        b.place(1, 3, 4, 5);
        b.place(2, 3, 4, 5);
        b.place(3, 3, 4, 0);
        b.bar(2, 4, 1);
        b.bar(4, 2, 1);
        b.bar(1, 3, 1);
        b.lose(0);
        int[] want = {2, 2, 3, 4, 5, 2, 3, 5, 1};
        for (int what = 0; what < 9; what++) {
            due("31 count " + what, b.count(what), want[what]);
        }
        b.type('z');
        due("31 rolls with a fault", b.count(0), 0);
        due("31 bytes with a fault", b.count(1), 3);
        due("31 wall with a fault", b.count(7), 0);
        due("31 bad", b.count(9), -2);
        due("31 bad below", b.count(-1), -2);
        for (int p = 0; p < 8; p++) {
            b.place(p, p % 4, p / 4, 0);
        }
        due("31 eight unlike", b.count(6), 8);
    }

    private static void promise32Digest() {
        BoxSpider b = new BoxSpider();
        due("32 new", b.digest(), Boxes.digestOf(b));
        sides(b, 7, 9, 11);
        Boxes.type(b, "enne");
        for (int p = 0; p < 8; p++) {
            b.place(p, p % 2 * 7, p, p + 2);
        }
        b.bar(0, 2, 1);
        long before = b.digest();
        due("32 used", before, Boxes.digestOf(b));
        due("32 changes nothing", b.digest(), before);
        b.lose(0);
        due("32 not the finding", b.digest(), before);
        b.bar(3, 5, 1);
        due("32 a bar changes it", b.digest() == before ? 1 : 0, 0);
    }

    private static void refusalsChangeNothing() {
        BoxSpider b = new BoxSpider();
        Boxes.type(b, "en");
        b.place(0, 12, 6, 9);
        b.bar(0, 2, 1);
        long before = b.digest();
        b.side(3, 5);
        b.side(0, 31);
        b.place(0, 1, 1, 1);
        b.type(999);
        b.bar(0, 1, 1);
        b.bar(0, 2, 2);
        b.read(0);
        b.read(9);
        b.write(0, 0);
        b.copy(0, 0, 0, 0, 0);
        b.sheet(0, 0, -1);
        due("refusals change nothing", b.digest(), before);
        due("but count 8", b.count(8), 5);
    }
}
