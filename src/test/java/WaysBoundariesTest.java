// Laid walls, ways and what is asked of all places, at each bound that the document names.
public final class WaysBoundariesTest {
    private static final Sentences DOC = new Sentences();

    public static void main(String[] args) throws Exception {
        standsAtFirst();
        eachRoll();
        laidBehindK();
        laidCorner();
        laidOutCall();
        liesCall();
        notBelow();
        oneWall();
        fiveWallsNotSix();
        noneTwice();
        firstAndLast();
        edgesAndTheirEnds();
        noneBarred();
        square();
        leastOfAll();
        shortestCall();
        waysCall();
        faceCall();
        fewestThenLeast();
        thereIsNoWay();
        farthest();
        farthestCall();
        sit();
        sitCall();
        nearer();
        nearerCall();
        wiresAsBits();
        wiresInOrder();
        wiresWithout();
        wiresCall();
        within();
        withinCall();
        DOC.finish(args);
    }

    private static void laid(BoxSpider b, int k, int... want) {
        for (int what = 0; what < 5; what++) {
            DOC.due("laid behind " + k + ", " + what, b.laidOut(k, what), want[what]);
        }
    }

    private static void row(BoxSpider b, int from, int to, int... walls) {
        for (int i = 0; i < 5; i++) {
            DOC.due("wall " + i + " from " + from + " to " + to, b.face(from, to, i), i < walls.length ? walls[i] : -1);
        }
    }

    private static void way(BoxSpider b, int from, int to, int length, int ways) {
        DOC.due("shortest from " + from + " to " + to, b.shortest(from, to), length);
        DOC.due("ways from " + from + " to " + to, b.ways(from, to), ways);
    }

    /** The middle of the roof is place 1, which no way leaves; all others are at 0, 0, 0. */
    private static BoxSpider shutRoof() {
        BoxSpider b = new BoxSpider();
        b.place(1, 6, 6, 30);
        Boxes.shut(b, 1);
        return b;
    }

    // ---- laid

    private static void standsAtFirst() {
        DOC.of("THE BOX stands on the plane with WALL 0 below, x to the east, y to the north, "
            + "its corner 0, 0, 0 at the plane's 0, 0");
        BoxSpider b = Boxes.of(2, 3, 5);
        laid(b, 0, 0, 0, 0, 2, 3);
        b.place(1, 2, 1, 0);
        DOC.due("the corner's x", b.lies(0, 0, 0), 0);
        DOC.due("the corner's y", b.lies(0, 0, 1), 0);
        DOC.due("x to the east", b.lies(1, 0, 0), 2);
        DOC.due("y to the north", b.lies(1, 0, 1), 1);
    }

    private static void eachRoll() {
        DOC.of("by each ROLL it is rolled over its lower edge in the east, west, north or south; "
            + "the WALL below comes to lie beside the one ahead.");
        String[] texts = {"ew", "we", "ns", "sn"};
        int[][] beside = {{3, 2, 0, 5, 3}, {2, -5, 0, 5, 3}, {5, 0, 3, 2, 5}, {4, 0, -5, 2, 5}};
        for (int i = 0; i < 4; i++) {
            BoxSpider b = Boxes.of(2, 3, 5);
            Boxes.type(b, texts[i]);
            laid(b, 1, beside[i]);
            laid(b, 2, 0, 0, 0, 2, 3);
        }
        int[][] round = {{14, 0}, {-14, 0}, {0, 16}, {0, -16}};
        for (int i = 0; i < 4; i++) {
            BoxSpider b = Boxes.of(2, 3, 5);
            for (int n = 0; n < 4; n++) {
                b.type("ewns".charAt(i));
            }
            laid(b, 2, 1, round[i][0] / 2, round[i][1] / 2, 2, 3);
            laid(b, 4, 0, round[i][0], round[i][1], 2, 3);
        }
        int[][] far = {{600, 0}, {-600, 0}, {0, 600}, {0, -600}};
        for (int i = 0; i < 4; i++) {
            BoxSpider b = Boxes.of(30, 30, 30);
            for (int n = 0; n < 20; n++) {
                b.type("ewns".charAt(i));
            }
            laid(b, 20, 0, far[i][0], far[i][1], 30, 30);
        }
    }

    private static void laidBehindK() {
        DOC.of("LAID behind k ROLLS (0 to as many as there are)");
        BoxSpider b = new BoxSpider();
        for (int n = 0; n <= 20; n++) {
            DOC.so("behind all " + n, b.laidOut(n, 1) == 21 * n - (n % 2 == 0 ? 0 : 9));
            DOC.due("behind one more", b.laidOut(n + 1, 1), Boxes.ANY_BAD);
            DOC.due("behind one less than none", b.laidOut(-1, 1), Boxes.ANY_BAD);
            b.type('e');
        }
        DOC.due("behind none with 21 letters", b.laidOut(0, 1), 0);
        DOC.due("behind one with 21 letters", b.laidOut(1, 1), Boxes.ANY_BAD);
    }

    private static void laidCorner() {
        DOC.of("the WALL below, where its corner in the south west lies on the plane (x, y), "
            + "how far it reaches to the east, to the north.");
        BoxSpider b = Boxes.of(1, 2, 30);
        Boxes.type(b, "wsen");
        laid(b, 0, 0, 0, 0, 1, 2);
        laid(b, 1, 2, -30, 0, 30, 2);
        laid(b, 2, 4, -30, -1, 30, 1);
        laid(b, 3, 0, 0, -1, 2, 1);
        laid(b, 4, 2, 0, 0, 2, 30);
    }

    private static void laidOutCall() {
        DOC.of("LAID: the WALL (what = 0), x (1), y (2), to the east (3), to the north (4), as any number. BAD: -10002.");
        BoxSpider b = Boxes.of(1, 1, 1);
        Boxes.type(b, "wwwwss");
        for (int k = 0; k <= 4; k++) {
            DOC.due("x like a refusal", b.laidOut(k, 1), -k);
        }
        DOC.due("y like a refusal", b.laidOut(6, 2), -2);
        for (int k : Boxes.outside(0, 6)) {
            DOC.due("behind " + k, b.laidOut(k, 0), -10002);
        }
        for (int what : Boxes.outside(0, 4)) {
            DOC.due("laid with " + what, b.laidOut(0, what), -10002);
        }
    }

    private static void liesCall() {
        DOC.of("LIES: x (what = 0), y (1), as any number. BAD: -10002; NOT: -10003.");
        BoxSpider b = Boxes.of(1, 1, 1);
        b.place(1, 0, 0, 0);
        b.place(2, 1, 1, 1);
        Boxes.type(b, "wwww");
        DOC.due("x like a refusal", b.lies(2, 2, 0), -2);
        DOC.due("y", b.lies(2, 2, 1), 1);
        DOC.due("x of the corner, round", b.lies(1, 4, 0), -4);
        DOC.due("NOT", b.lies(2, 0, 0), -10003);
        DOC.due("NOT for y", b.lies(2, 0, 1), -10003);
        for (int place : Boxes.outside(0, 7)) {
            DOC.due("place " + place, b.lies(place, 0, 0), -10002);
        }
        for (int k : Boxes.outside(0, 4)) {
            DOC.due("behind " + k, b.lies(1, k, 0), -10002);
            DOC.due("BAD goes ahead of NOT", b.lies(2, k, 0), -10002);
        }
        for (int what : Boxes.outside(0, 1)) {
            DOC.due("lies with " + what, b.lies(1, 0, what), -10002);
            DOC.due("BAD goes ahead of NOT", b.lies(2, 0, what), -10002);
        }
    }

    private static void notBelow() {
        DOC.of("LIES: where a PLACE lies on the plane (x, y): NOT, if it is not on the WALL below.");
        BoxSpider b = Boxes.of(4, 4, 4);
        b.place(0, 2, 2, 0);
        b.place(1, 4, 2, 0);
        b.place(2, 4, 2, 1);
        b.place(3, 3, 2, 0);
        Boxes.type(b, "e");
        DOC.due("on the wall below", b.lies(0, 0, 0), 2);
        DOC.due("not behind the roll", b.lies(0, 1, 0), Boxes.ANY_NOT);
        DOC.due("on the edge", b.lies(1, 0, 0), 4);
        DOC.due("on the edge behind the roll too", b.lies(1, 1, 0), 4);
        DOC.due("one above the wall below", b.lies(2, 0, 0), Boxes.ANY_NOT);
        DOC.due("below behind the roll", b.lies(2, 1, 0), 5);
        DOC.due("one beside the edge", b.lies(3, 1, 0), Boxes.ANY_NOT);
    }

    // ---- ways

    private static void oneWall() {
        DOC.of("A WAY is a row of WALLS (two to five that lie side by side one behind the other, or one)");
        int[][] first = {{4, 5, 0}, {4, 5, 30}, {0, 4, 5}, {12, 4, 5}, {4, 0, 5}, {4, 12, 5}};
        int[][] second = {{7, 9, 0}, {7, 9, 30}, {0, 7, 9}, {12, 7, 9}, {7, 0, 9}, {7, 12, 9}};
        for (int wall = 0; wall < 6; wall++) {
            BoxSpider b = new BoxSpider();
            b.place(0, first[wall][0], first[wall][1], first[wall][2]);
            b.place(1, second[wall][0], second[wall][1], second[wall][2]);
            way(b, 0, 1, 25, 1);
            row(b, 0, 1, wall);
            Boxes.openOnly(b);
            way(b, 0, 1, 25, 1);
        }
    }

    private static void fiveWallsNotSix() {
        DOC.of("two to five that lie side by side");
        BoxSpider b = new BoxSpider();
        b.place(0, 6, 11, 0);
        b.place(1, 6, 1, 30);
        Boxes.openOnly(b, 5, 52, 24, 41);
        way(b, 0, 1, 1600, 1);
        row(b, 0, 1, 0, 5, 2, 4, 1);
        // One more would do, 5 and 12 on the plane, as a told way shows: but it goes over all six.
        b = Boxes.of(3, 3, 4);
        b.place(0, 2, 2, 0);
        b.place(1, 1, 3, 1);
        Boxes.openOnly(b, 4, 43, 31, 12, 25);
        Boxes.type(b, "sesse");
        DOC.due("told over six walls", b.told(0, 0, 1, 5), 169);
        way(b, 0, 1, -1, 0);
        row(b, 0, 1);
    }

    private static void noneTwice() {
        DOC.of("or one), none twice");
        // On an edge: over the one wall, the other one, or both in either order; not to and fro.
        BoxSpider b = new BoxSpider();
        b.place(0, 0, 6, 0);
        way(b, 0, 0, 0, 4);
        // At a corner: rows of one, two or three of its walls.
        b.place(1, 12, 12, 30);
        way(b, 1, 1, 0, 3 + 6 + 6);
        Boxes.type(b, "wewe");
        DOC.due("a told way goes to and fro", b.told(0, 0, 0, 4), 0);
    }

    private static void firstAndLast() {
        DOC.of("the first of which has the one PLACE on it, the last one the other");
        BoxSpider b = Boxes.of(4, 4, 4);
        b.place(0, 2, 4, 2);
        b.place(1, 0, 2, 2);
        row(b, 0, 1, 5, 2);
        row(b, 1, 0, 2, 5);
        // At the edge of both it is on the other's wall, and no edge has to be met.
        b.place(2, 0, 4, 2);
        row(b, 0, 2, 5);
        row(b, 1, 2, 2);
        way(b, 0, 2, 4, 2);
        way(b, 2, 0, 4, 2);
        b.place(3, 1, 4, 2);
        way(b, 3, 2, 1, 2);
        way(b, 2, 3, 1, 2);
        b.place(4, 3, 4, 2);
        b.place(5, 4, 4, 2);
        way(b, 4, 5, 1, 2);
        way(b, 5, 4, 1, 2);
    }

    private static void edgesAndTheirEnds() {
        DOC.of("the straight line from the one to the other meets each of the edges over which it is rolled "
            + "(their ends, too)");
        BoxSpider b = Boxes.of(4, 4, 4);
        b.place(0, 2, 2, 0);
        b.place(1, 4, 2, 3);
        b.place(2, 4, 2, 2);
        b.place(3, 4, 2, 1);
        b.bar(0, 3, 1);
        // By walls 4 and 5: above the corner, right through it, and below it, where the line misses.
        way(b, 0, 1, 16 + 25, 2);
        row(b, 0, 1, 0, 4, 3);
        way(b, 0, 2, 16 + 16, 2);
        row(b, 0, 2, 0, 4, 3);
        DOC.so("not past the corner", b.shortest(0, 3) != 16 + 9);
        Boxes.openOnly(b, 4, 43);
        way(b, 0, 1, 41, 1);
        way(b, 0, 2, 32, 1);
        way(b, 0, 3, -1, 0);
        // Along an edge, from end to end, is on both walls of it.
        b = new BoxSpider();
        b.place(1, 0, 0, 30);
        Boxes.openOnly(b, 24);
        way(b, 0, 1, 900, 4);
        row(b, 0, 1, 2);
        alongEdges();
    }

    /**
     * From each corner along each of its edges, of walls A and C, B being the corner's third: A, C, AC, CA, and by
     * the corner, which is an end of all three edges, BA, BC, BAC, BCA, ABC, CBA.
     */
    private static void alongEdges() {
        int[] sides = {7, 9, 11};
        for (int corner = 0; corner < 8; corner++) {
            BoxSpider b = Boxes.of(7, 9, 11);
            int[] p = {(corner & 1) * 7, (corner >> 1 & 1) * 9, (corner >> 2) * 11};
            b.place(0, p[0], p[1], p[2]);
            for (int axis = 0; axis < 3; axis++) {
                int[] q = p.clone();
                q[axis] = Math.abs(sides[axis] - 3 - p[axis]);
                int far = Math.abs(q[axis] - p[axis]);
                b.place(1, q[0], q[1], q[2]);
                way(b, 0, 1, far * far, 10);
                way(b, 1, 0, far * far, 10);
            }
        }
    }

    private static void noneBarred() {
        DOC.of("meets each of the edges over which it is rolled (their ends, too), none of which is barred.");
        BoxSpider b = Boxes.of(4, 4, 4);
        b.place(0, 2, 2, 0);
        b.place(1, 2, 2, 4);
        way(b, 0, 1, 64, 4);
        for (int a = 2; a < 4; a++) {
            for (int c = 4; c < 6; c++) {
                b.bar(a, c, 1);
            }
        }
        way(b, 0, 1, 64, 4);
        b.bar(0, 2, 1);
        way(b, 0, 1, 64, 3);
        b.bar(1, 2, 1);
        way(b, 0, 1, 64, 3);
        b.bar(1, 3, 1);
        way(b, 0, 1, 64, 2);
        b.bar(0, 4, 1);
        b.bar(1, 5, 1);
        way(b, 0, 1, -1, 0);
        b.bar(1, 5, 0);
        way(b, 0, 1, 64, 1);
    }

    private static void square() {
        DOC.of("Its LENGTH is told by its square.");
        BoxSpider b = Boxes.of(30, 30, 30);
        b.place(1, 1, 0, 0);
        b.place(2, 2, 1, 0);
        b.place(3, 30, 30, 30);
        DOC.due("none", b.shortest(0, 0), 0);
        DOC.due("one", b.shortest(0, 1), 1);
        DOC.due("no whole root", b.shortest(0, 2), 5);
        DOC.due("across the greatest box", b.shortest(0, 3), 60 * 60 + 30 * 30);
        longWayRound(b);
        DOC.due("above 9999, too", b.shortest(6, 7), 118 * 118);
    }

    /** From place 6, beside an edge, to place 7 on its other side, round by the west: 118 long. */
    private static void longWayRound(BoxSpider b) {
        b.place(6, 29, 15, 0);
        b.place(7, 30, 15, 1);
        Boxes.openOnly(b, 2, 21, 13);
    }

    private static void leastOfAll() {
        DOC.of("SHORTEST of two PLACES: the least LENGTH of all WAYS; how many WAYS have it");
        BoxSpider b = Boxes.of(4, 6, 4);
        b.place(0, 2, 3, 0);
        b.place(1, 2, 3, 4);
        // By walls 2 and 3: 8 long; by walls 4 and 5: 10 long, which count when those are gone.
        way(b, 0, 1, 64, 2);
        b.bar(0, 2, 1);
        way(b, 0, 1, 64, 1);
        b.bar(0, 3, 1);
        DOC.so("longer ones", b.shortest(0, 1) > 64);
        Boxes.openOnly(b, 4, 41, 5, 51);
        way(b, 0, 1, 100, 2);
        Boxes.openOnly(b, 4, 41);
        way(b, 0, 1, 100, 1);
        Boxes.openOnly(b);
        way(b, 0, 1, -1, 0);
    }

    private static void shortestCall() {
        DOC.of("SHORTEST; NONE. BAD.");
        BoxSpider b = new BoxSpider();
        b.place(7, 12, 12, 30);
        DOC.due("from the first to the last", b.shortest(0, 7), 1476);
        DOC.due("from the last to the first", b.shortest(7, 0), 1476);
        DOC.due("NONE", shutRoof().shortest(0, 1), -1);
        for (int place : Boxes.outside(0, 7)) {
            DOC.due("from " + place, b.shortest(place, 0), -2);
            DOC.due("to " + place, b.shortest(0, place), -2);
            DOC.due("from and to " + place, b.shortest(place, place), -2);
        }
    }

    private static void waysCall() {
        DOC.of("How many WAYS have it. BAD.");
        BoxSpider b = new BoxSpider();
        b.place(7, 12, 12, 30);
        DOC.due("from the first to the last", b.ways(0, 7), 42);
        DOC.due("none", shutRoof().ways(0, 1), 0);
        for (int place : Boxes.outside(0, 7)) {
            DOC.due("from " + place, b.ways(place, 0), -2);
            DOC.due("to " + place, b.ways(0, place), -2);
        }
    }

    private static void faceCall() {
        DOC.of("the i-th of it (0 to 4; NONE: there is none).");
        BoxSpider b = new BoxSpider();
        b.place(0, 6, 11, 0);
        b.place(1, 6, 1, 30);
        b.place(2, 6, 10, 0);
        row(b, 0, 1, 0, 5, 2, 4, 1);
        row(b, 0, 2, 0);
        DOC.of("The i-th WALL of the WAY; NONE. BAD.");
        for (int i : Boxes.outside(0, 4)) {
            DOC.due("wall " + i, b.face(0, 1, i), -2);
            DOC.due("wall " + i + " of a row of one", b.face(0, 2, i), -2);
        }
        for (int place : Boxes.outside(0, 7)) {
            DOC.due("from " + place, b.face(place, 0, 0), -2);
            DOC.due("to " + place, b.face(0, place, 0), -2);
        }
        row(shutRoof(), 0, 1);
    }

    private static void fewestThenLeast() {
        DOC.of("of these the one with the fewest WALLS, of like ones the least row by numbers of WALLS");
        BoxSpider b = new BoxSpider();
        b.place(1, 3, 0, 4);
        // From the corner of 0, 2 and 4: the row 0, 4 is less than 4, but 4 has fewer walls.
        way(b, 0, 1, 25, 5);
        row(b, 0, 1, 4);
        row(b, 1, 0, 4);
        b.place(2, 0, 0, 9);
        b.place(3, 0, 0, 12);
        row(b, 2, 3, 2);
        // From the edge of 0 and 4, where 0, 4 has but one wall more.
        b.place(4, 6, 0, 0);
        way(b, 4, 1, 25, 2);
        row(b, 4, 1, 4);
        b = Boxes.of(4, 4, 4);
        b.place(0, 2, 2, 4);
        b.place(1, 2, 2, 0);
        row(b, 0, 1, 1, 2, 0);
        b.bar(1, 2, 1);
        row(b, 0, 1, 1, 3, 0);
        b.bar(0, 3, 1);
        row(b, 0, 1, 1, 4, 0);
        b.bar(0, 4, 1);
        row(b, 0, 1, 1, 5, 0);
        b.bar(1, 5, 1);
        // Four walls: 3 and 5, or 4 and 2, are left between them, 8 and 4 on the plane.
        way(b, 0, 1, 80, 2);
        row(b, 0, 1, 1, 3, 5, 0);
    }

    private static void thereIsNoWay() {
        DOC.of("NONE: there is no WAY.");
        BoxSpider b = shutRoof();
        way(b, 0, 1, -1, 0);
        way(b, 1, 0, -1, 0);
        way(b, 1, 1, 0, 1);
        row(b, 1, 1, 1);
        row(b, 1, 7);
        b.place(2, 6, 12, 30);
        way(b, 1, 2, 36, 1);
        b.bar(1, 4, 0);
        DOC.so("one edge is open", b.shortest(0, 1) > 0);
        Boxes.openOnly(b);
        b.place(3, 0, 6, 30);
        way(b, 3, 1, 36, 1);
        way(b, 3, 0, 36 + 900, 1);
        way(b, 3, 4, 936, 1);
    }

    // ---- all places

    private static void farthest() {
        DOC.of("FARTHEST from a PLACE: the PLACE (itself, too) with the greatest SHORTEST "
            + "(not one to which there is no WAY), of like ones the least.");
        BoxSpider b = new BoxSpider();
        for (int place = 0; place < 8; place++) {
            DOC.due("all alike", b.farthest(place), 0);
        }
        b.place(3, 0, 0, 10);
        b.place(5, 0, 0, 10);
        DOC.due("the lesser of two", b.farthest(0), 3);
        DOC.due("the least of six", b.farthest(5), 0);
        b.place(7, 0, 0, 11);
        DOC.due("the greater one, though behind", b.farthest(0), 7);
        b = shutRoof();
        DOC.due("itself", b.farthest(1), 1);
        DOC.due("not the one without a way", b.farthest(0), 0);
        b.place(6, 0, 0, 3);
        DOC.due("not the one without a way", b.farthest(7), 6);
    }

    private static void farthestCall() {
        DOC.of("FARTHEST. BAD.");
        BoxSpider b = new BoxSpider();
        b.place(7, 0, 0, 1);
        DOC.due("from the first", b.farthest(0), 7);
        DOC.due("from the last", b.farthest(7), 0);
        for (int place : Boxes.outside(0, 7)) {
            DOC.due("from " + place, b.farthest(place), -2);
        }
    }

    private static void sit() {
        DOC.of("SIT: the PLACE from which the greatest SHORTEST to all PLACES is least, of like ones the least "
            + "(NONE: from each some one has no WAY).");
        BoxSpider b = new BoxSpider();
        DOC.due("all alike", b.sit(), 0);
        b.place(0, 0, 0, 30);
        b.place(4, 0, 0, 15);
        b.place(6, 0, 0, 15);
        DOC.due("the lesser of two", b.sit(), 4);
        b.place(7, 0, 0, 14);
        DOC.due("one beside the middle is no better", b.sit(), 4);
        b.place(4, 0, 0, 13);
        b.place(6, 0, 0, 16);
        DOC.due("the lesser of two as near to the middle", b.sit(), 6);
        b = shutRoof();
        DOC.due("from each some one has no way", b.sit(), -1);
        // At an edge of the roof: one way on the roof, another on the wall below it.
        b.place(5, 0, 6, 30);
        DOC.due("from one all have a way", b.sit(), 5);
    }

    private static void sitCall() {
        DOC.of("SIT; NONE.");
        BoxSpider b = new BoxSpider();
        for (int place = 0; place < 7; place++) {
            b.place(place, 0, 0, 4 * place);
        }
        b.place(7, 0, 0, 12);
        DOC.due("the middle", b.sit(), 3);
        b.place(3, 0, 0, 0);
        DOC.due("the last", b.sit(), 7);
        DOC.due("none", shutRoof().sit(), -1);
    }

    private static void nearer() {
        DOC.of("NEARER: PLACES to which the SHORTEST is less from one than from another one, as bits "
            + "(one without a WAY is behind all).");
        BoxSpider b = new BoxSpider();
        b.place(1, 0, 0, 10);
        b.place(2, 0, 0, 4);
        b.place(3, 0, 0, 5);
        b.place(4, 0, 0, 6);
        b.place(7, 0, 0, 30);
        DOC.due("less", b.nearer(0, 1), 1 | 4 | 32 | 64);
        DOC.due("less from the other, neither if alike", b.nearer(1, 0), 2 | 16 | 128);
        DOC.due("two alike", b.nearer(5, 6), 0);
        b = shutRoof();
        DOC.due("the one without a way is behind", b.nearer(0, 1), 0xff ^ 2);
        DOC.due("to itself it has one", b.nearer(1, 0), 2);
        b.place(0, 6, 6, 0);
        Boxes.shut(b, 0);
        for (int place = 2; place < 8; place++) {
            b.place(place, 0, 6, 15);
        }
        DOC.due("both without a way", b.nearer(0, 1), 1);
        DOC.due("both without a way", b.nearer(1, 0), 2);
    }

    private static void nearerCall() {
        DOC.of("NEARER to the first than to the second, as bits. BAD: also than itself.");
        BoxSpider b = new BoxSpider();
        b.place(7, 0, 0, 1);
        DOC.due("to the first", b.nearer(0, 7), 127);
        DOC.due("to the last", b.nearer(7, 0), 128);
        for (int place = 0; place < 8; place++) {
            DOC.due("than itself", b.nearer(place, place), -2);
        }
        for (int place : Boxes.outside(0, 7)) {
            DOC.due("from " + place, b.nearer(place, 0), -2);
            DOC.due("than " + place, b.nearer(0, place), -2);
        }
    }

    private static void wired(String what, BoxSpider b, int places, int greatest, int... pairs) {
        DOC.due(what + ": how many", b.wires(places, -1), pairs.length);
        DOC.due(what + ": the greatest", b.wires(places, -2), greatest);
        for (int i = 0; i < pairs.length; i++) {
            DOC.due(what + ": wire " + i, b.wires(places, i), pairs[i]);
        }
        DOC.due(what + ": behind the last", b.wires(places, pairs.length), -1);
    }

    private static void wiresAsBits() {
        DOC.of("WIRES: PLACES (those told as bits) are joined, two by two");
        BoxSpider b = new BoxSpider();
        for (int place = 0; place < 8; place++) {
            b.place(place, 0, 0, 2 * place);
        }
        for (int bits = 0; bits < 256; bits++) {
            DOC.due("wires of bits " + bits, b.wires(bits, -1), Math.max(0, Integer.bitCount(bits) - 1));
        }
        wired("every other one", b, 0x55, 16, 2, 16 + 4, 32 + 6);
        wired("the ends", b, 0x81, 196, 7);
    }

    private static void wiresInOrder() {
        DOC.of("the shortest first (of like ones by the lesser PLACE, then by the other one), "
            + "if they are not joined yet by others");
        BoxSpider b = Boxes.of(10, 10, 10);
        b.place(1, 10, 0, 0);
        b.place(2, 10, 10, 0);
        b.place(3, 0, 10, 0);
        // Round the floor: 0 and 1, 0 and 3, 1 and 2; 2 and 3 are joined by then.
        wired("all sides alike", b, 15, 100, 1, 3, 8 + 2);
        b.place(3, 0, 9, 0);
        wired("the shorter first", b, 15, 100, 3, 1, 8 + 2);
        wired("three of them", b, 7, 100, 1, 8 + 2);
        wired("the lesser of two first", b, 255, 100, 4, 5, 6, 7, 3, 1, 8 + 2);
        b = new BoxSpider();
        for (int place = 0; place < 8; place++) {
            b.place(place, 0, 0, 28 - place * place / 2);
        }
        // At 28, 28, 26, 24, 20, 16, 10 and 4.
        wired("longer and longer", b, 255, 36, 1, 2, 16 + 3, 24 + 4, 32 + 5, 40 + 6, 48 + 7);
        // 0 and 1 are joined by 5, which stands between them, so not by a wire of their own.
        b.place(0, 0, 0, 0);
        b.place(5, 0, 0, 1);
        b.place(1, 0, 0, 3);
        wired("joined by a greater one", b, 1 | 2 | 32, 4, 5, 8 + 5);
        wired("none again", b, 0, 0);
    }

    private static void wiresWithout() {
        DOC.of("how many; the greatest LENGTH of these (0 without); as pairs: the i-th "
            + "(8 times the lesser PLACE and the other one; NONE).");
        BoxSpider b = new BoxSpider();
        b.place(7, 0, 0, 3);
        wired("no places", b, 0, 0);
        for (int place = 0; place < 8; place++) {
            wired("one place", b, 1 << place, 0);
        }
        wired("two alike", b, 3, 0, 1);
        wired("the first and the last", b, 129, 9, 7);
        wired("the last two", b, 192, 9, 55);
        wired("all", b, 255, 9, 1, 2, 3, 4, 5, 6, 7);
        b = shutRoof();
        wired("two without a way", b, 3, 0);
        b.place(4, 6, 8, 30);
        wired("no way to the others", b, 255, 4, 2, 3, 5, 6, 7, 8 + 4);
    }

    private static void wiresCall() {
        DOC.of("WIRES: how many (i = NONE), the greatest LENGTH (-2), the i-th (0 on; NONE). BAD (bits 0 to 255).");
        BoxSpider b = new BoxSpider();
        b.place(7, 0, 0, 3);
        DOC.due("the least bits", b.wires(0, -1), 0);
        DOC.due("the greatest bits", b.wires(255, -1), 7);
        DOC.due("the last wire", b.wires(255, 6), 7);
        int[] beyond = {7, 8, 100, Boxes.GREATEST};
        for (int i : beyond) {
            DOC.due("wire " + i, b.wires(255, i), -1);
        }
        int[] below = {-3, -4, -100, Boxes.LEAST};
        for (int i : below) {
            DOC.due("wire " + i, b.wires(255, i), -2);
            DOC.due("wire " + i + " of none", b.wires(0, i), -2);
        }
        for (int bits : Boxes.outside(0, 255)) {
            DOC.due("how many of bits " + bits, b.wires(bits, -1), -2);
            DOC.due("the greatest of bits " + bits, b.wires(bits, -2), -2);
            DOC.due("a wire of bits " + bits, b.wires(bits, 0), -2);
        }
    }

    private static void within() {
        DOC.of("WITHIN: how many PLACES have a SHORTEST of no more than told (0 to 9999) from one.");
        BoxSpider b = new BoxSpider();
        for (int place = 1; place < 8; place++) {
            b.place(place, 0, 0, place);
        }
        for (int place = 0; place < 8; place++) {
            DOC.due("just as far", b.within(0, place * place), place + 1);
            DOC.due("not so far", place == 0 ? 0 : b.within(0, place * place - 1), place);
        }
        DOC.due("the least", b.within(5, 0), 1);
        DOC.due("the greatest", b.within(5, 9999), 8);
        DOC.due("not one without a way", shutRoof().within(0, 9999), 7);
        DOC.due("not one without a way", shutRoof().within(0, 0), 7);
        b = Boxes.of(30, 30, 30);
        longWayRound(b);
        DOC.due("all but the one above 9999", b.within(6, 9999), 7);
    }

    private static void withinCall() {
        DOC.of("WITHIN. BAD.");
        BoxSpider b = new BoxSpider();
        DOC.due("from the first", b.within(0, 0), 8);
        DOC.due("from the last", b.within(7, 9999), 8);
        for (int place : Boxes.outside(0, 7)) {
            DOC.due("from " + place, b.within(place, 5), -2);
        }
        for (int most : Boxes.outside(0, 9999)) {
            DOC.due("within " + most, b.within(0, most), -2);
        }
    }
}
