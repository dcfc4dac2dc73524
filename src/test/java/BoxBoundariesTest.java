// The box, its places, its text of rolls and its bars, at each bound that the document names.
public final class BoxBoundariesTest {
    private static final Sentences DOC = new Sentences();
    private static final int[] FIRST = {12, 12, 30};

    public static void main(String[] args) throws Exception {
        sides();
        sideCall();
        ends();
        placeCall();
        firstPlaces();
        walls();
        atCall();
        lostBeyond();
        lostInside();
        notLost();
        otherSideOtherWay();
        lastOf512();
        fortyBytes();
        typeCall();
        twentyLetters();
        faultyBytes();
        faultCall();
        noRollsWithFault();
        undoCall();
        wipeCall();
        bars();
        barCall();
        readWhole();
        readAsLongAsMayBe();
        readRefused();
        newObject();
        count();
        DOC.finish(args);
    }

    private static void standsAt(String what, BoxSpider b, int place, int x, int y, int z) {
        DOC.due(what + ": x of " + place, b.at(place, 0), x);
        DOC.due(what + ": y of " + place, b.at(place, 1), y);
        DOC.due(what + ": z of " + place, b.at(place, 2), z);
    }

    /** A point with v on an axis and w on both others. */
    private static int[] along(int axis, int v, int w) {
        int[] p = {w, w, w};
        p[axis] = v;
        return p;
    }

    private static int put(BoxSpider b, int place, int[] p) {
        return b.place(place, p[0], p[1], p[2]);
    }

    private static void standsAt(String what, BoxSpider b, int place, int[] p) {
        standsAt(what, b, place, p[0], p[1], p[2]);
    }

    // ---- sides

    private static void sides() {
        DOC.of("LONG, WIDE, HIGH (1 to 30 each; 12, 12 and 30 at first)");
        for (int side = 0; side < 3; side++) {
            BoxSpider b = new BoxSpider();
            DOC.due("at first", b.count(2 + side), FIRST[side]);
            DOC.due("the least side", b.side(side, 1), FIRST[side]);
            DOC.due("is 1", b.count(2 + side), 1);
            DOC.due("the greatest side", b.side(side, 30), 1);
            DOC.due("is 30", b.count(2 + side), 30);
            for (int v : Boxes.outside(1, 30)) {
                DOC.due("side " + v, b.side(side, v), -2);
                DOC.due("is 30 still", b.count(2 + side), 30);
            }
            for (int other = 0; other < 3; other++) {
                DOC.due("the others", b.count(2 + other), other == side ? 30 : FIRST[other]);
            }
        }
    }

    private static void sideCall() {
        DOC.of("A side (0 LONG, 1 WIDE, 2 HIGH) is so long: what it was. BAD.");
        BoxSpider b = new BoxSpider();
        DOC.due("LONG", b.side(0, 3), 12);
        DOC.due("WIDE", b.side(1, 4), 12);
        DOC.due("HIGH", b.side(2, 5), 30);
        DOC.due("LONG was", b.side(0, 3), 3);
        DOC.due("WIDE was", b.side(1, 4), 4);
        DOC.due("HIGH was", b.side(2, 5), 5);
        for (int side : Boxes.outside(0, 2)) {
            DOC.due("side " + side, b.side(side, 9), -2);
        }
        DOC.due("LONG is", b.count(2), 3);
        DOC.due("WIDE is", b.count(3), 4);
        DOC.due("HIGH is", b.count(4), 5);
    }

    // ---- places

    private static void ends() {
        DOC.of("x from 0 to LONG, y from 0 to WIDE, z from 0 to HIGH, at least one of which is at an end.");
        int[][] on = {{0, 3, 4}, {5, 3, 4}, {2, 0, 4}, {2, 7, 4}, {2, 3, 0}, {2, 3, 9}, {0, 0, 4}, {5, 7, 4},
            {0, 3, 9}, {0, 0, 0}, {5, 0, 0}, {0, 7, 0}, {5, 7, 0}, {0, 0, 9}, {5, 0, 9}, {0, 7, 9}, {5, 7, 9}};
        int[][] off = {{2, 3, 4}, {1, 1, 1}, {4, 6, 8}, {1, 6, 8}, {4, 1, 8}, {4, 6, 1}, {-1, 0, 0}, {6, 0, 0},
            {0, -1, 0}, {0, 8, 0}, {0, 0, -1}, {0, 0, 10}, {-1, 3, 9}, {6, 7, 4}, {5, 8, 9}, {5, 7, 10}, {-1, -1, -1},
            {6, 8, 10}, {Boxes.LEAST, 0, 0}, {0, Boxes.LEAST, 0}, {0, 0, Boxes.LEAST}, {Boxes.GREATEST, 0, 0},
            {0, Boxes.GREATEST, 0}, {0, 0, Boxes.GREATEST}, {Boxes.LEAST, Boxes.LEAST, Boxes.LEAST},
            {Boxes.GREATEST, Boxes.GREATEST, Boxes.GREATEST}};
        BoxSpider b = Boxes.of(5, 7, 9);
        for (int[] p : on) {
            DOC.due("on the box", put(b, 3, p), 1);
            standsAt("on the box", b, 3, p);
        }
        for (int[] p : off) {
            DOC.due("off the box", put(b, 3, p), -2);
            standsAt("as it was", b, 3, 5, 7, 9);
        }
        b = Boxes.of(1, 1, 1);
        DOC.due("a corner of the least box", b.place(0, 1, 1, 1), 1);
        b = Boxes.of(2, 2, 2);
        DOC.due("inside the next", b.place(0, 1, 1, 1), -2);
        b = Boxes.of(30, 30, 30);
        DOC.due("a corner of the greatest box", b.place(0, 30, 30, 30), 1);
        DOC.due("inside it", b.place(0, 29, 29, 29), -2);
        DOC.due("beyond it", b.place(0, 31, 30, 30), -2);
    }

    private static void placeCall() {
        DOC.of("A PLACE is there: 1. BAD: also off THE BOX.");
        BoxSpider b = new BoxSpider();
        DOC.due("the first", b.place(0, 12, 1, 2), 1);
        DOC.due("the last", b.place(7, 3, 12, 4), 1);
        standsAt("the first", b, 0, 12, 1, 2);
        standsAt("the last", b, 7, 3, 12, 4);
        for (int place : Boxes.outside(0, 7)) {
            DOC.due("place " + place, b.place(place, 0, 0, 0), -2);
        }
        DOC.due("off the box", b.place(7, 3, 13, 4), -2);
        standsAt("still", b, 7, 3, 12, 4);
        DOC.due("moved again", b.place(7, 0, 0, 30), 1);
        standsAt("moved", b, 7, 0, 0, 30);
    }

    private static void firstPlaces() {
        DOC.of("PLACES 0 to 7 (all at 0, 0, 0 at first)");
        BoxSpider b = new BoxSpider();
        for (int place = 0; place < 8; place++) {
            standsAt("at first", b, place, 0, 0, 0);
            DOC.due("walls at first", b.at(place, 3), 1 | 4 | 16);
        }
        DOC.due("ahead of the first", b.at(-1, 0), -2);
        DOC.due("behind the last", b.at(8, 0), -2);
    }

    private static void walls() {
        DOC.of("Its WALLS are 0 (z is 0), 1 (z is HIGH), 2 (x is 0), 3 (x is LONG), 4 (y is 0), 5 (y is WIDE).");
        int[][] on = {{2, 3, 0}, {2, 3, 9}, {0, 3, 4}, {5, 3, 4}, {2, 0, 4}, {2, 7, 4}};
        BoxSpider b = Boxes.of(5, 7, 9);
        for (int wall = 0; wall < 6; wall++) {
            put(b, wall, on[wall]);
            DOC.due("on wall " + wall + " alone", b.at(wall, 3), 1 << wall);
        }
        b.place(0, 5, 7, 9);
        DOC.due("three walls at a corner", b.at(0, 3), 2 | 8 | 32);
        b.place(0, 5, 0, 4);
        DOC.due("two walls at an edge", b.at(0, 3), 8 | 16);
        b = Boxes.of(1, 1, 1);
        b.place(0, 1, 0, 1);
        DOC.due("never both walls of a side", b.at(0, 3), 2 | 8 | 16);
    }

    private static void atCall() {
        DOC.of("x, y, z of a PLACE (what = 0 to 2), WALLS on which it lies, as bits (3). BAD.");
        BoxSpider b = new BoxSpider();
        b.place(7, 5, 12, 9);
        standsAt("the last place", b, 7, 5, 12, 9);
        DOC.due("its walls", b.at(7, 3), 32);
        for (int place : Boxes.outside(0, 7)) {
            for (int what = 0; what < 4; what++) {
                DOC.due("at of place " + place, b.at(place, what), -2);
            }
        }
        for (int what : Boxes.outside(0, 3)) {
            DOC.due("at with " + what, b.at(7, what), -2);
        }
    }

    // ---- lost places

    private static void lostBeyond() {
        DOC.of("when a side changes, one that does not lie on THE BOX any more is LOST: it goes to 0, 0, 0.");
        for (int axis = 0; axis < 3; axis++) {
            BoxSpider b = Boxes.of(10, 10, 10);
            int[] end = along(axis, 10, 5);
            int[] corner = along(axis, 10, 10);
            int[] edge = along(axis, 9, 10);
            int[] near = along(axis, 0, 5);
            put(b, 1, end);
            put(b, 2, corner);
            put(b, 3, edge);
            put(b, 7, near);
            DOC.due("one shorter", b.side(axis, 9), 10);
            standsAt("beyond by one", b, 1, 0, 0, 0);
            standsAt("a corner beyond by one", b, 2, 0, 0, 0);
            standsAt("at the new end", b, 3, edge);
            standsAt("at the near end", b, 7, near);
            DOC.due("at three walls now", Integer.bitCount(b.at(3, 3)), 3);
            DOC.due("longer again", b.side(axis, 10), 9);
            standsAt("it does not come back", b, 1, 0, 0, 0);
        }
    }

    private static void lostInside() {
        DOC.of("one that does not lie on THE BOX any more is LOST");
        for (int axis = 0; axis < 3; axis++) {
            BoxSpider b = Boxes.of(10, 10, 10);
            int[] end = along(axis, 10, 5);
            int[] edge = along(axis, 10, 0);
            int[] far = along(axis, 10, 10);
            put(b, 0, end);
            put(b, 6, edge);
            put(b, 7, far);
            DOC.due("one longer", b.side(axis, 11), 10);
            standsAt("inside now", b, 0, 0, 0, 0);
            standsAt("on other walls still", b, 6, edge);
            standsAt("on other walls still", b, 7, far);
            DOC.due("two walls now", Integer.bitCount(b.at(6, 3)), 2);
        }
    }

    private static void notLost() {
        DOC.of("when a side changes");
        for (int axis = 0; axis < 3; axis++) {
            BoxSpider b = Boxes.of(10, 10, 10);
            int[] end = along(axis, 10, 5);
            put(b, 4, end);
            DOC.due("the same side again", b.side(axis, 10), 10);
            standsAt("where it was", b, 4, end);
            DOC.due("a refused side", b.side(axis, 31), -2);
            DOC.due("a refused side", b.side(axis, 0), -2);
            standsAt("where it was", b, 4, end);
            DOC.due("another side", b.side((axis + 1) % 3, 6), 10);
            standsAt("where it was", b, 4, end);
        }
    }

    private static void otherSideOtherWay() {
        DOC.of("when a side changes, one");
        // From wall 4 to wall 5, 6 from wall 2: by it, until wall 3 comes nearer.
        BoxSpider b = new BoxSpider();
        b.place(0, 6, 0, 15);
        b.place(1, 6, 12, 15);
        DOC.due("by wall 2 or 3", b.shortest(0, 1), 24 * 24);
        DOC.due("one longer", b.side(0, 13), 12);
        DOC.due("by wall 2", b.face(0, 1, 1), 2);
        DOC.due("by wall 2 alone", b.ways(0, 1), 1);
        DOC.due("shorter", b.side(0, 8), 13);
        DOC.due("by wall 3", b.shortest(0, 1), 16 * 16);
        DOC.due("by wall 3", b.face(0, 1, 1), 3);
    }

    private static void lastOf512() {
        DOC.of("An object is used for at most 512 calls after it has been made");
        BoxSpider b = new BoxSpider();
        for (int call = 1; call <= 509; call++) {
            DOC.due("call " + call, b.place(call % 8, 0, 0, call % 31), 1);
        }
        DOC.due("call 510", b.place(0, 6, 11, 0), 1);
        DOC.due("call 511", b.place(1, 6, 1, 30), 1);
        DOC.due("call 512", b.shortest(0, 1), 1600);
        b = new BoxSpider();
        for (int call = 1; call <= 511; call++) {
            DOC.due("call " + call, b.type('e'), call <= 40 ? call : -4);
        }
        DOC.due("call 512", b.wipe(), 40);
    }

    // ---- rolls

    private static void fortyBytes() {
        DOC.of("ROLLS are a text of up to 40 bytes");
        BoxSpider b = new BoxSpider();
        for (int n = 1; n <= 40; n++) {
            DOC.due("byte " + n, b.type('n'), n);
        }
        DOC.due("byte 41", b.type('n'), -4);
        DOC.due("still 40", b.count(1), 40);
        DOC.due("one less", b.undo(), 39);
        DOC.due("room for one", b.type('x'), 40);
        DOC.due("and no more", b.type('x'), -4);
        DOC.due("all are wiped", b.wipe(), 40);
        for (int n = 1; n <= 40; n++) {
            DOC.due("byte " + n + " again", b.type(0), n);
        }
        DOC.due("byte 41 again", b.type(0), -4);
    }

    private static void typeCall() {
        DOC.of("A byte (0 to 255) comes behind ROLLS: how many. BAD; FULL.");
        BoxSpider b = new BoxSpider();
        for (int v : Boxes.outside(0, 255)) {
            DOC.due("type " + v, b.type(v), -2);
        }
        DOC.due("nothing came", b.count(1), 0);
        DOC.due("the least byte", b.type(0), 1);
        DOC.due("the greatest byte", b.type(255), 2);
        for (int n = 3; n <= 40; n++) {
            b.type('e');
        }
        for (int v : Boxes.outside(0, 255)) {
            DOC.due("BAD goes ahead of FULL", b.type(v), -2);
        }
        DOC.due("FULL", b.type(0), -4);
        DOC.due("FULL", b.type(255), -4);
        DOC.due("is as it was", b.count(1), 40);
    }

    private static void twentyLetters() {
        DOC.of("letters e, w, n, s (20 at most)");
        BoxSpider b = new BoxSpider();
        for (int n = 1; n <= 20; n++) {
            b.type("ewns".charAt(n % 4));
            DOC.due("rolls", b.count(0), n);
        }
        for (int n = 21; n <= 40; n++) {
            b.type('e');
            DOC.due("no rolls with " + n + " letters", b.count(0), 0);
            DOC.due("bytes", b.count(1), n);
        }
        for (int n = 39; n >= 21; n--) {
            b.undo();
            DOC.due("no rolls yet with " + n, b.count(0), 0);
        }
        b.undo();
        DOC.due("twenty again", b.count(0), 20);
    }

    private static void faultyBytes() {
        DOC.of("The FAULT is the place of the first byte that is no such letter, or of the 21st; NONE");
        for (int v = 0; v < 256; v++) {
            BoxSpider b = new BoxSpider();
            b.type(v);
            boolean letter = v == 101 || v == 119 || v == 110 || v == 115;
            DOC.due("fault of byte " + v, b.fault(), letter ? -1 : 0);
            DOC.due("rolls of byte " + v, b.count(0), letter ? 1 : 0);
        }
        for (int where = 0; where < 40; where++) {
            BoxSpider b = new BoxSpider();
            for (int i = 0; i < 40; i++) {
                b.type(i == where ? '?' : 's');
            }
            DOC.due("a wrong byte at " + where, b.fault(), Math.min(where, 20));
        }
        BoxSpider b = new BoxSpider();
        Boxes.type(b, "ew?e?");
        DOC.due("the first of two", b.fault(), 2);
    }

    private static void faultCall() {
        DOC.of("The FAULT; NONE.");
        BoxSpider b = new BoxSpider();
        DOC.due("no bytes", b.fault(), -1);
        for (int n = 1; n <= 20; n++) {
            b.type('w');
            DOC.due(n + " letters", b.fault(), -1);
        }
        b.type('w');
        DOC.due("the 21st letter", b.fault(), 20);
        b.type('w');
        DOC.due("the 21st, not the 22nd", b.fault(), 20);
        b.wipe();
        DOC.due("wiped", b.fault(), -1);
    }

    private static void noRollsWithFault() {
        DOC.of("with a FAULT there are no ROLLS");
        BoxSpider b = new BoxSpider();
        b.place(1, 12, 6, 5);
        Boxes.type(b, "e");
        DOC.due("one roll", b.laidOut(1, 0), 3);
        b.type('E');
        DOC.due("bytes", b.count(1), 2);
        DOC.due("rolls", b.count(0), 0);
        DOC.due("the wall below", b.count(7), 0);
        DOC.due("laid behind none", b.laidOut(0, 0), 0);
        DOC.due("not laid behind one", b.laidOut(1, 0), Boxes.ANY_BAD);
        DOC.due("lies behind none", b.lies(0, 0, 0), 0);
        DOC.due("lies not behind one", b.lies(1, 1, 0), Boxes.ANY_BAD);
        DOC.due("told behind none", b.told(0, 0, 0, 0), 0);
        DOC.due("not told behind one", b.told(0, 0, 1, 1), -2);
        DOC.due("not told from one", b.told(1, 1, 1, 1), -2);
        b.undo();
        DOC.due("rolls again", b.count(0), 1);
        DOC.due("laid again", b.laidOut(1, 0), 3);
        DOC.due("lies again", b.lies(1, 1, 0), 17);
    }

    private static void undoCall() {
        DOC.of("The last byte of ROLLS is undone: how many are left. NOT: there is none.");
        BoxSpider b = new BoxSpider();
        DOC.due("none at first", b.undo(), -3);
        Boxes.type(b, "n?e");
        DOC.due("three", b.undo(), 2);
        DOC.due("the wrong one is there still", b.fault(), 1);
        DOC.due("two", b.undo(), 1);
        DOC.due("the first is left", b.laidOut(1, 0), 5);
        DOC.due("one", b.undo(), 0);
        DOC.due("none left", b.undo(), -3);
        DOC.due("none left still", b.undo(), -3);
        DOC.due("from one on again", b.type('e'), 1);
        b.wipe();
        DOC.due("none behind a wipe", b.undo(), -3);
    }

    private static void wipeCall() {
        DOC.of("ROLLS are empty: how many bytes they had.");
        BoxSpider b = new BoxSpider();
        DOC.due("none at first", b.wipe(), 0);
        Boxes.type(b, "ew?");
        DOC.due("with a fault", b.wipe(), 3);
        DOC.due("none behind it", b.wipe(), 0);
        DOC.due("bytes", b.count(1), 0);
        DOC.due("fault", b.fault(), -1);
        for (int i = 0; i < 40; i++) {
            b.type('e');
        }
        DOC.due("all forty", b.wipe(), 40);
        DOC.due("from one on", b.type('s'), 1);
        DOC.due("the new one", b.laidOut(1, 0), 4);
    }

    // ---- bars

    /** In a cube of 4 the middles of two walls beside each other are 4 apart. */
    private static final int[][] MIDDLES = {{2, 2, 0}, {2, 2, 4}, {0, 2, 2}, {4, 2, 2}, {2, 0, 2}, {2, 4, 2}};

    private static void bars() {
        DOC.of("an edge between two WALLS can be barred (1) or not (0; at first): no way crosses it.");
        for (int a = 0; a < 6; a++) {
            for (int c = 0; c < 6; c++) {
                if (a / 2 == c / 2) {
                    continue;
                }
                BoxSpider b = Boxes.of(4, 4, 4);
                put(b, 0, MIDDLES[a]);
                put(b, 1, MIDDLES[c]);
                DOC.due("over the edge", b.shortest(0, 1), 16);
                DOC.due("not barred at first", b.bar(a, c, 0), 0);
                DOC.due("barred", b.bar(a, c, 1), 0);
                // Past both ends of the edge, by the corners, 4 to each direction.
                DOC.due("not over the edge", b.shortest(0, 1), 32);
                DOC.due("ways past its ends", b.ways(0, 1), 2);
                DOC.due("back neither", b.shortest(1, 0), 32);
                DOC.due("not barred any more", b.bar(a, c, 0), 1);
                DOC.due("over the edge again", b.shortest(0, 1), 16);
            }
        }
    }

    private static void barCall() {
        DOC.of("The edge between two WALLS is barred (1), or not (0): what it was. BAD: also WALLS without an edge.");
        BoxSpider b = new BoxSpider();
        for (int wall = 0; wall < 6; wall++) {
            for (int v = 0; v < 2; v++) {
                DOC.due("a wall and itself", b.bar(wall, wall, v), -2);
                DOC.due("a wall and the one across", b.bar(wall, wall ^ 1, v), -2);
            }
            for (int none : Boxes.outside(0, 5)) {
                DOC.due("wall " + none, b.bar(none, wall, 1), -2);
                DOC.due("wall " + none, b.bar(wall, none, 1), -2);
            }
        }
        for (int v : Boxes.outside(0, 1)) {
            DOC.due("barred by " + v, b.bar(0, 2, v), -2);
        }
        DOC.due("none is barred", b.count(5), 0);
        DOC.due("was not", b.bar(0, 2, 1), 0);
        DOC.due("was, told the other way round", b.bar(2, 0, 1), 1);
        DOC.due("was", b.bar(0, 2, 0), 1);
        DOC.due("was not any more", b.bar(2, 0, 0), 0);
    }

    // ---- read

    private static void readWhole() {
        DOC.of("its items, three for each, as many as are whole, as long as each may be, eight at most: how many.");
        BoxSpider b = new BoxSpider();
        for (int n = 0; n <= 60; n++) {
            b.sheet(n % 4, n % 3, n);
            DOC.due("read of " + n + " items", b.read(n % 4), Math.min(n / 3, 8));
        }
        for (int n = 0; n <= 30; n++) {
            b = new BoxSpider();
            for (int place = 0; place < 8; place++) {
                b.place(place, 12, 12, 30);
            }
            b.sheet(0, 2, n);
            b.read(0);
            for (int place = 0; place < 8; place++) {
                DOC.due("place " + place + " of " + n + " items", b.at(place, 2), 3 * place + 2 < n ? 0 : 30);
            }
        }
        b = new BoxSpider();
        Boxes.fill(b, 1, 1, 12, 3, 4, 99, 99);
        DOC.due("a wrong one that is not whole", b.read(1), 1);
        standsAt("the whole one", b, 0, 12, 3, 4);
        b.sheet(1, 1, 27);
        b.lay(1, 1, 24, 99);
        DOC.due("a wrong one behind eight", b.read(1), 8);
    }

    private static void readAsLongAsMayBe() {
        DOC.of("as long as each may be");
        int[][] off = {{1, 1, 1}, {13, 0, 0}, {0, 13, 0}, {0, 0, 31}, {-1, 0, 0}, {0, -1, 0}, {0, 0, -1}};
        for (int first = 0; first < 8; first++) {
            int[] wrong = off[first % off.length];
            BoxSpider b = new BoxSpider();
            b.sheet(2, 0, 24);
            for (int place = 0; place < 8; place++) {
                b.place(place, 12, 12, 30);
                b.lay(2, 0, 3 * place + 2, place + 1);
            }
            for (int i = 0; i < 3; i++) {
                b.lay(2, 0, 3 * first + i, wrong[i]);
            }
            DOC.due("wrong from " + first + " on", b.read(2), first);
            for (int place = 0; place < 8; place++) {
                if (place < first) {
                    standsAt("read", b, place, 0, 0, place + 1);
                } else {
                    standsAt("not read", b, place, 12, 12, 30);
                }
            }
        }
        BoxSpider b = Boxes.of(30, 30, 30);
        Boxes.fill(b, 0, 2, 30, 30, 30, Boxes.LEAST, 0, 0);
        DOC.due("the least int", b.read(0), 1);
        Boxes.fill(b, 0, 2, 30, 29, 29, 0, 0, Boxes.GREATEST);
        DOC.due("the greatest int", b.read(0), 1);
        standsAt("the one ahead of it", b, 0, 30, 29, 29);
    }

    private static void readRefused() {
        DOC.of("eight at most: how many. BAD; NULL.");
        BoxSpider b = new BoxSpider();
        b.place(0, 12, 0, 0);
        for (int s : Boxes.outside(0, 3)) {
            DOC.due("sheet " + s, b.read(s), -2);
        }
        DOC.due("no finding yet", b.count(8), 0);
        for (int s = 0; s < 4; s++) {
            DOC.due("a lost sheet", b.read(s), Boxes.NULL);
        }
        DOC.due("a finding", b.count(8), 1);
        b.sheet(3, 0, 2);
        DOC.due("none whole", b.read(3), 0);
        standsAt("where it was", b, 0, 12, 0, 0);
    }

    // ---- a new object, counts

    private static void newObject() {
        DOC.of("A box of 12, 12, 30; all SHEETS are LOST.");
        int[] first = {0, 0, 12, 12, 30, 0, 1, 0, 0};
        BoxSpider b = new BoxSpider();
        for (int what = 0; what < 9; what++) {
            DOC.due("count " + what, b.count(what), first[what]);
        }
        for (int s = 0; s < 4; s++) {
            DOC.due("sheet " + s, b.lose(s), Boxes.NULL);
        }
        // All places are at one corner: rows of one, two or three of its walls.
        DOC.due("no way to go", new BoxSpider().shortest(0, 7), 0);
        DOC.due("ways at a corner", new BoxSpider().ways(0, 7), 3 + 6 + 6);
        DOC.due("the least row", new BoxSpider().face(0, 7, 0), 0);
        BoxSpider other = new BoxSpider();
        b.side(0, 5);
        b.sheet(0, 0, 4);
        b.type('e');
        b.bar(0, 2, 1);
        for (int what = 0; what < 9; what++) {
            DOC.due("another object's count " + what, other.count(what), first[what]);
        }
    }

    private static void count() {
        DOC.of("0 ROLLS, 1 bytes, 2 to 4 LONG, WIDE, HIGH, 5 barred edges, 6 unlike PLACES, "
            + "7 the WALL below behind all ROLLS, 8 the number of the latest FINDING (0 before any). BAD.");
        BoxSpider b = new BoxSpider();
        for (int what : Boxes.outside(0, 8)) {
            DOC.due("count " + what, b.count(what), -2);
        }
        int edges = 0;
        for (int a = 0; a < 6; a++) {
            for (int c = a + 1; c < 6; c++) {
                edges += b.bar(a, c, 1) == 0 ? 1 : 0;
                b.bar(c, a, 1);
                DOC.due("barred edges", b.count(5), edges);
            }
        }
        DOC.due("all edges", b.count(5), 12);
        unlike();
        below();
        findings();
    }

    private static void unlike() {
        BoxSpider b = new BoxSpider();
        for (int place = 1; place < 8; place++) {
            b.place(place, 0, 0, place);
            DOC.due("unlike places", b.count(6), place + 1);
        }
        for (int place = 1; place < 8; place++) {
            b.place(place, 0, 0, 0);
            DOC.due("unlike places", b.count(6), 8 - place);
        }
        int[][] one = {{1, 0, 0}, {0, 1, 0}, {0, 0, 1}};
        for (int[] p : one) {
            put(b, 7, p);
            DOC.due("unlike in one number", b.count(6), 2);
        }
    }

    private static void below() {
        BoxSpider b = new BoxSpider();
        int[] walls = {0, 3, 5, 2, 5};
        for (int n = 0; n <= 4; n++) {
            DOC.due("the wall below", b.count(7), walls[n]);
            b.type("enns".charAt(Math.min(n, 3)));
        }
        b.type('?');
        DOC.due("with a fault", b.count(7), 0);
    }

    private static void findings() {
        BoxSpider b = new BoxSpider();
        DOC.due("before any", b.count(8), 0);
        b.sheet(0, 0, -1);
        DOC.due("SIZE", b.count(8), 5);
        b.read(0);
        DOC.due("NULL", b.count(8), 1);
        b.sheet(0, 0, 1);
        b.lay(0, 0, 1, 1);
        DOC.due("INDEX", b.count(8), 2);
        b.lay(0, 1, 0, 1);
        DOC.due("CAST", b.count(8), 3);
        b.sheet(1, 1, 1);
        b.copy(0, 0, 1, 0, 1);
        DOC.due("STORE", b.count(8), 4);
        b.lay(0, 0, 0, 1);
        DOC.due("what is done leaves it", b.count(8), 4);
        b.lay(4, 0, 0, 1);
        DOC.due("what is BAD leaves it", b.count(8), 4);
    }
}
