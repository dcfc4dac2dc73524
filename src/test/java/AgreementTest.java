import java.util.ArrayList;
import java.util.List;

// The document's opening words: what one call tells has to agree with what the others tell of the same box.
public final class AgreementTest {
    private static final Sentences DOC = new Sentences();
    private static final String LETTERS = "ewns";
    private static final int[] MOST_LONG = {2, 3, 5, 12, 30};
    private static long lot = 32;

    public static void main(String[] args) throws Exception {
        spiderAndFly();
        laidFaceByFace();
        straightInSomeLaying();
        barredEdges();
        farthestSitNearer();
        wiresToAll();
        withinALaying();
        snailRoundAndRound();
        roomByAThread();
        fliesByASeed();
        rollsUndone();
        DOC.finish(args);
    }

    // ---- boxes by lot

    private static int lotOf(int m) {
        lot = lot * 6364136223846793005L + 1442695040888963407L;
        return (int) ((lot >>> 33) % m);
    }

    /** Small boxes have many like lengths. */
    private static BoxSpider anyBox(int round) {
        int most = MOST_LONG[round % MOST_LONG.length];
        BoxSpider b = Boxes.of(1 + lotOf(most), 1 + lotOf(most), 1 + lotOf(most));
        for (int place = 0; place < 8; place++) {
            putAnywhere(b, place);
        }
        return b;
    }

    private static void putAnywhere(BoxSpider b, int place) {
        int[] at = new int[3];
        for (int side = 0; side < 3; side++) {
            at[side] = lotOf(b.count(2 + side) + 1);
        }
        int end = lotOf(3);
        at[end] = lotOf(2) * b.count(2 + end);
        b.place(place, at[0], at[1], at[2]);
    }

    private static void barSome(BoxSpider b, int oneOf) {
        for (int wall = 0; wall < 6; wall++) {
            for (int other = wall + 1; other < 6; other++) {
                if (lotOf(oneOf) == 0) {
                    b.bar(wall, other, 1);
                }
            }
        }
    }

    private static int[][] allShortest(BoxSpider b) {
        int[][] lengths = new int[8][8];
        for (int from = 0; from < 8; from++) {
            for (int to = 0; to < 8; to++) {
                lengths[from][to] = b.shortest(from, to);
            }
        }
        return lengths;
    }

    private static int squareInSpace(BoxSpider b, int place, int other) {
        int square = 0;
        for (int what = 0; what < 3; what++) {
            int apart = b.at(place, what) - b.at(other, what);
            square += apart * apart;
        }
        return square;
    }

    // ---- the shortest

    private static void spiderAndFly() {
        DOC.of("Over a box by the shortest: a long room, a spider at one end, a fly at the other, and the shortest way, "
            + "by walls, over five of six;");
        BoxSpider b = new BoxSpider();
        b.place(0, 6, 11, 0);
        b.place(1, 6, 1, 30);
        DOC.due("40 long", b.shortest(0, 1), 40 * 40);
        int walls = 0;
        for (int i = 0; i < 5; i++) {
            DOC.so("a wall", b.face(0, 1, i) >= 0);
            walls |= 1 << b.face(0, 1, i);
        }
        DOC.due("five walls", Integer.bitCount(walls), 5);
    }

    private static void laidFaceByFace() {
        DOC.of("places on a box, laid flat face by face;");
        for (int round = 0; round < 80; round++) {
            BoxSpider b = anyBox(round);
            for (int k = 0; k <= 3; k++) {
                int wall = b.laidOut(k, 0);
                for (int place = 0; place < 8; place++) {
                    boolean on = (b.at(place, 3) >> wall & 1) == 1;
                    DOC.due("on the wall below", b.lies(place, k, 0) == Boxes.ANY_NOT ? 0 : 1, on ? 1 : 0);
                }
                sameDistances(b, k);
                b.type(LETTERS.charAt(lotOf(4)));
            }
        }
    }

    /** What is on one wall is as far apart on the plane as in space; what is on the edge stays where it is. */
    private static void sameDistances(BoxSpider b, int k) {
        for (int place = 1; place < 8; place++) {
            if (b.lies(0, k, 0) != Boxes.ANY_NOT && b.lies(place, k, 0) != Boxes.ANY_NOT) {
                int right = b.lies(place, k, 0) - b.lies(0, k, 0);
                int up = b.lies(place, k, 1) - b.lies(0, k, 1);
                DOC.due("as far apart", right * right + up * up, squareInSpace(b, 0, place));
            }
        }
        if (k > 0 && b.lies(0, k, 0) != Boxes.ANY_NOT && b.lies(0, k - 1, 0) != Boxes.ANY_NOT) {
            DOC.due("x of an edge", b.lies(0, k, 0), b.lies(0, k - 1, 0));
            DOC.due("y of an edge", b.lies(0, k, 1), b.lies(0, k - 1, 1));
        }
    }

    /** All texts of rolls are told, letter by letter, and what is best is kept. */
    private static final class Told {
        int least = BoxSpider.NONE;
        int howMany = 0;
        List<Integer> best = List.of();

        void goOn(BoxSpider b, List<Integer> walls) {
            int rolls = walls.size() - 1;
            int length = b.told(0, 0, 1, rolls);
            if (length >= 0) {
                take(length, walls);
            }
            for (int letter = 0; letter < 4 && rolls > 0 && rolls < 4; letter++) {
                rollOn(b, letter, walls);
            }
        }

        void rollOn(BoxSpider b, int letter, List<Integer> walls) {
            b.type(LETTERS.charAt(letter));
            int wall = b.laidOut(walls.size(), 0);
            if (!walls.contains(wall)) {
                List<Integer> more = new ArrayList<>(walls);
                more.add(wall);
                goOn(b, more);
            }
            b.undo();
        }

        private void take(int length, List<Integer> walls) {
            if (least < 0 || length < least) {
                least = length;
                howMany = 0;
                best = walls;
            }
            if (length == least) {
                howMany++;
                best = comesFirst(walls, best) ? walls : best;
            }
        }

        private static boolean comesFirst(List<Integer> walls, List<Integer> others) {
            if (walls.size() != others.size()) {
                return walls.size() < others.size();
            }
            for (int i = 0; i < walls.size(); i++) {
                if (!walls.get(i).equals(others.get(i))) {
                    return walls.get(i) < others.get(i);
                }
            }
            return false;
        }
    }

    private static BoxSpider spiderInside(int round, long start) {
        lot = start;
        BoxSpider b = Boxes.of(2 + lotOf(8), 2 + lotOf(8), 1 + lotOf(12));
        // Inside of wall 0, so that all ways begin as the rolls do.
        b.place(0, 1 + lotOf(b.count(2) - 1), 1 + lotOf(b.count(3) - 1), 0);
        putAnywhere(b, 1);
        if (round % 2 == 1) {
            barSome(b, 3);
        }
        return b;
    }

    private static void straightInSomeLaying() {
        DOC.of("all ways that are straight in some laying, the shortest, exactly, by the square of its length;");
        for (int round = 0; round < 400; round++) {
            long start = lot;
            BoxSpider b = spiderInside(round, start);
            Told told = new Told();
            told.goOn(b, List.of(0));
            for (int letter = 0; letter < 4; letter++) {
                // A new box for each, as one is used for at most 512 calls.
                told.rollOn(spiderInside(round, start), letter, List.of(0));
            }
            DOC.due("the least", b.shortest(0, 1), told.least);
            DOC.due("how many", b.ways(0, 1), told.howMany);
            for (int i = 0; i < 5; i++) {
                DOC.due("wall " + i, b.face(0, 1, i), i < told.best.size() ? told.best.get(i) : BoxSpider.NONE);
            }
            DOC.due("back again", b.shortest(1, 0), told.least);
            DOC.due("as many back", b.ways(1, 0), told.howMany);
        }
    }

    private static void barredEdges() {
        DOC.of("edges that are barred;");
        for (int round = 0; round < 60; round++) {
            BoxSpider b = anyBox(round);
            int wall = lotOf(6);
            int beside = ((wall & ~1) + 2 + lotOf(4)) % 6;
            int[][] open = allShortest(b);
            DOC.due("not yet", b.bar(wall, beside, 1), 0);
            int[][] barred = allShortest(b);
            DOC.due("any more", b.bar(wall, beside, 0), 1);
            int[][] again = allShortest(b);
            for (int p = 0; p < 64; p++) {
                int was = open[p / 8][p % 8];
                int is = barred[p / 8][p % 8];
                DOC.so("no shorter with a bar", is == BoxSpider.NONE || is >= was);
                DOC.due("as before", again[p / 8][p % 8], was);
            }
        }
    }

    private static void farthestSitNearer() {
        DOC.of("the farthest place, where to sit, who is nearer where;");
        for (int round = 0; round < 60; round++) {
            BoxSpider b = anyBox(round);
            barSome(b, round % 3 == 0 ? 2 : 6);
            int[][] lengths = allShortest(b);
            int seat = BoxSpider.NONE;
            int reachOfSeat = 0;
            for (int p = 0; p < 8; p++) {
                int farthest = p;
                int reach = 0;
                for (int to = 7; to >= 0; to--) {
                    farthest = lengths[p][to] >= lengths[p][farthest] ? to : farthest;
                    reach = lengths[p][to] < 0 || reach < 0 ? -1 : Math.max(reach, lengths[p][to]);
                }
                DOC.due("farthest", b.farthest(p), farthest);
                if (reach >= 0 && (seat < 0 || reach < reachOfSeat)) {
                    seat = p;
                    reachOfSeat = reach;
                }
                int next = (p + 1) % 8;
                DOC.due("nearer", b.nearer(p, next), nearer(lengths, p, next));
            }
            DOC.due("sit", b.sit(), seat);
        }
    }

    private static int nearer(int[][] lengths, int a, int b) {
        int bits = 0;
        for (int to = 0; to < 8; to++) {
            // As a number without a sign NONE is behind all.
            bits |= Integer.compareUnsigned(lengths[a][to], lengths[b][to]) < 0 ? 1 << to : 0;
        }
        return bits;
    }

    private static void wiresToAll() {
        DOC.of("wires to all places;");
        for (int round = 0; round < 60; round++) {
            BoxSpider b = anyBox(round);
            barSome(b, round % 3 == 0 ? 2 : 6);
            int[][] lengths = allShortest(b);
            int places = round % 2 == 0 ? 255 : lotOf(256);
            int howMany = b.wires(places, BoxSpider.NONE);
            int joined = 0;
            int last = -1;
            for (int i = 0; i < howMany; i++) {
                int pair = b.wires(places, i);
                int key = lengths[pair / 8][pair % 8] * 64 + pair;
                DOC.so("a way", lengths[pair / 8][pair % 8] >= 0);
                DOC.so("by length, then by places", key > last);
                DOC.so("of those told", (places >> pair / 8 & places >> pair % 8 & 1) == 1);
                last = key;
                joined |= 1 << pair / 8 | 1 << pair % 8;
            }
            DOC.due("none behind the last", b.wires(places, howMany), BoxSpider.NONE);
            DOC.due("the greatest", b.wires(places, -2), last < 0 ? 0 : last / 64);
            DOC.due("joined as far as there are ways", howMany, Integer.bitCount(places) - groups(lengths, places));
            DOC.so("none besides", (joined & ~places) == 0);
        }
    }

    /** How many groups the places make, if each is joined to all to which it has a way. */
    private static int groups(int[][] lengths, int places) {
        int left = places;
        int groups = 0;
        while (left != 0) {
            int group = Integer.lowestOneBit(left);
            for (int round = 0; round < 8; round++) {
                group |= besides(lengths, group) & places;
            }
            left &= ~group;
            groups++;
        }
        return groups;
    }

    private static int besides(int[][] lengths, int group) {
        int bits = 0;
        for (int pair = 0; pair < 64; pair++) {
            if ((group >> pair / 8 & 1) == 1 && lengths[pair / 8][pair % 8] >= 0) {
                bits |= 1 << pair % 8;
            }
        }
        return bits;
    }

    // ---- told ways, snails, threads, flies

    private static void withinALaying() {
        DOC.of("a laying told as a text of rolls, where a place lies in it, whether a told way stays within;");
        for (int round = 0; round < 200; round++) {
            BoxSpider b = anyBox(round);
            for (int n = 0; n < 4; n++) {
                b.type(LETTERS.charAt(lotOf(4)));
            }
            for (int k = 0; k <= 4; k++) {
                for (int place = 0; place < 8; place++) {
                    toldAsItLies(b, place, k);
                }
            }
        }
    }

    private static void toldAsItLies(BoxSpider b, int place, int k) {
        int length = b.told(0, 0, place, k);
        boolean bothLie = b.lies(0, 0, 0) != Boxes.ANY_NOT && b.lies(place, k, 0) != Boxes.ANY_NOT;
        if (!bothLie) {
            DOC.due("one is not on the wall", length, BoxSpider.NOT);
        } else if (length != BoxSpider.NOT) {
            int right = b.lies(place, k, 0) - b.lies(0, 0, 0);
            int up = b.lies(place, k, 1) - b.lies(0, 0, 1);
            DOC.due("as far as they lie", length, right * right + up * up);
            DOC.so("no shorter than the shortest", length >= b.shortest(0, place));
        }
    }

    private static void snailRoundAndRound() {
        DOC.of("a snail that goes but straight, round and round;");
        for (int round = 0; round < 200; round++) {
            BoxSpider b = anyBox(round);
            int right = lotOf(19) - 9;
            int up = right == 0 ? 1 + lotOf(9) : lotOf(19) - 9;
            int k = 1;
            while (k <= 20 && followSnail(b, right, up, k)) {
                k++;
            }
        }
    }

    /** Rolls the box as the snail does: the line from the middle has to cross that edge; false at a corner. */
    private static boolean followSnail(BoxSpider b, int right, int up, int k) {
        int roll = b.snail(right, up, k, 1);
        int wall = b.snail(right, up, k, 0);
        int west = 2 * b.laidOut(k - 1, 1) - b.count(2);
        int south = 2 * b.laidOut(k - 1, 2) - b.count(3);
        int east = west + 2 * b.laidOut(k - 1, 3);
        int north = south + 2 * b.laidOut(k - 1, 4);
        if (roll == BoxSpider.NONE) {
            DOC.due("no wall either", wall, BoxSpider.NONE);
            int cornerX = right > 0 ? east : west;
            int cornerY = up > 0 ? north : south;
            DOC.due("through the corner", cornerX * up, cornerY * right);
            return false;
        }
        // The line is at (t right, t up): multiplied by the speed across the edge, to be exact.
        boolean upright = roll == 1 || roll == 2;
        int speed = Math.abs(upright ? right : up);
        int edge = roll == 1 ? east : roll == 2 ? west : roll == 3 ? north : south;
        int met = Math.abs(edge) * (upright ? up : right);
        DOC.so("that way", Integer.signum(edge) == Integer.signum(upright ? right : up));
        DOC.so("inside of the edge", met > speed * (upright ? south : west) && met < speed * (upright ? north : east));
        b.type(LETTERS.charAt(roll - 1));
        DOC.due("the wall that the roll brings", wall, b.laidOut(k, 0));
        return true;
    }

    private static void roomByAThread() {
        DOC.of("how long the room is, by a thread;");
        for (int round = 0; round < 40; round++) {
            int[] at = {lotOf(7), lotOf(2) * 5, lotOf(9), lotOf(2) * 6, lotOf(6), lotOf(9)};
            int[] lengths = new int[31];
            for (int high = 1; high <= 30; high++) {
                lengths[high] = lengthIn(Boxes.of(6, 5, high), at);
            }
            int high = 9 + lotOf(22);
            BoxSpider b = Boxes.of(6, 5, high);
            DOC.due("the thread", lengthIn(b, at), lengths[high]);
            for (int other = 9; other <= 30; other++) {
                int howMany = 0;
                int least = BoxSpider.NONE;
                for (int h = 30; h >= 1; h--) {
                    howMany += lengths[h] == lengths[other] ? 1 : 0;
                    least = lengths[h] == lengths[other] ? h : least;
                }
                DOC.due("how many", b.thread(0, 1, lengths[other], 0), howMany);
                DOC.due("the least", b.thread(0, 1, lengths[other], 1), least);
            }
        }
    }

    private static int lengthIn(BoxSpider b, int[] at) {
        boolean both = b.place(0, at[0], at[1], at[2]) == 1 && b.place(1, at[3], at[4], at[5]) == 1;
        return both ? b.shortest(0, 1) : BoxSpider.BAD;
    }

    private static void fliesByASeed() {
        DOC.of("flies by a seed;");
        for (int round = 0; round < 60; round++) {
            BoxSpider b = anyBox(round);
            barSome(b, 4);
            int seed = lotOf(1 << 30) * 4 + lotOf(4);
            int most = lotOf(300);
            int near = 0;
            long lots = seed;
            for (int n = 0; n <= 99; n++) {
                DOC.due(n + " flies", b.flies(0, seed, n, most), near);
                lots = 1103515245L * lots + 12345 & 0xffffffffL;
                int length = b.shortest(0, (int) (lots / 65536 % 8));
                near += length >= 0 && length <= most ? 1 : 0;
            }
            DOC.due("to all", b.flies(0, seed, 99, 9999) == 99 ? 1 : 0, onlyReached(b, seed) ? 1 : 0);
        }
    }

    private static boolean onlyReached(BoxSpider b, int seed) {
        int lots = seed;
        for (int n = 0; n < 99; n++) {
            lots = 1103515245 * lots + 12345;
            if (b.shortest(0, lots >> 16 & 7) == BoxSpider.NONE) {
                return false;
            }
        }
        return true;
    }

    // ---- rolls undone

    private static void rollsUndone() {
        DOC.of("rolls undone.");
        BoxSpider b = anyBox(3);
        long[] digests = new long[41];
        for (int n = 0; n <= 40; n++) {
            digests[n] = b.digest();
            b.type(n == 15 ? 'x' : LETTERS.charAt(lotOf(4)));
        }
        for (int n = 39; n >= 0; n--) {
            DOC.due("left", b.undo(), n);
            DOC.due("as it was behind " + n, b.digest(), digests[n]);
        }
        DOC.due("none left", b.undo(), BoxSpider.NOT);
    }
}
