/**
 * Shortest ways over the walls of a box, exactly, by the squares of their lengths.
 *
 * Walls 2a and 2a + 1 stand across axis a, where axis 0 is z, 1 is x and 2 is y: so the wall
 * opposite to w is w ^ 1, and the side between the two is spans[w >> 1].
 */
public final class BoxSpider {
    public static final int NONE = -1, BAD = -2, NOT = -3, FULL = -4;

    private static final int SIDES = 3, WALLS = 6, PLACES = 8, MOST_WALLS = 5;
    private static final int LONGEST_SIDE = 30, GREATEST_LENGTH = 9999;
    private static final int EAST = 1, WEST = 2, NORTH = 3, SOUTH = 4;
    private static final int MOST_BYTES = 40, MOST_ROLLS = 20;
    private static final int STEEPEST = 9, MOST_EDGES = 30, MOST_FLIES = 99;
    private static final int SHEETS = 4, FORMS = 3, MOST_ITEMS = 60, LOST = -1;
    private static final int BYTES = 0, SHORTS = 1;
    private static final int NULL = 1, INDEX = 2, CAST = 3, STORE = 4, SIZE = 5;
    /** Refusals are so much lower where any number may be an answer. */
    private static final int BELOW_ANY = -10000;
    private static final int LEAST_INT = -2147483648;

    private final Room room = new Room();
    private final Rolls rolls = new Rolls();
    private final Search search = new Search(room);
    private final Table table = new Table(room, search);
    private final Wiring wiring = new Wiring();
    private final Sheet[] sheets = new Sheet[SHEETS];
    private final Stand stand = new Stand();
    private final Line line = new Line();
    private final Spot spot = new Spot();
    private final int[] trialSpans = new int[SIDES];
    private int finding = 0;

    public BoxSpider() {
        for (int s = 0; s < SHEETS; s++) {
            sheets[s] = new Sheet();
        }
    }

    // ---- box, places, rolls

    public int side(int side, int v) {
        if (side < 0 || side >= SIDES || v < 1 || v > LONGEST_SIDE) {
            return BAD;
        }
        return room.stretch(axisOf(side), v);
    }

    public int place(int place, int x, int y, int z) {
        if (!isPlace(place) || !room.holds(x, y, z)) {
            return BAD;
        }
        room.move(place, x, y, z);
        return 1;
    }

    public int at(int place, int what) {
        if (!isPlace(place) || what < 0 || what > 3) {
            return BAD;
        }
        switch (what) {
            case 0:
                return room.xs[place];
            case 1:
                return room.ys[place];
            case 2:
                return room.zs[place];
            default:
                room.spotOf(place, spot);
                return spot.wallBits();
        }
    }

    public int read(int s) {
        if (!isSheet(s)) {
            return BAD;
        }
        Sheet sheet = sheets[s];
        if (sheet.isLost()) {
            return found(NULL);
        }
        int whole = Math.min(sheet.size / 3, PLACES);
        for (int place = 0; place < whole; place++) {
            int x = sheet.items[3 * place];
            int y = sheet.items[3 * place + 1];
            int z = sheet.items[3 * place + 2];
            if (!room.holds(x, y, z)) {
                return place;
            }
            room.move(place, x, y, z);
        }
        return whole;
    }

    public int type(int b) {
        if (b < 0 || b > 255) {
            return BAD;
        }
        if (rolls.size >= MOST_BYTES) {
            return FULL;
        }
        rolls.append(b);
        return rolls.size;
    }

    public int undo() {
        if (rolls.size == 0) {
            return NOT;
        }
        rolls.size--;
        return rolls.size;
    }

    public int wipe() {
        int had = rolls.size;
        rolls.size = 0;
        return had;
    }

    public int fault() {
        return rolls.firstWrong();
    }

    public int bar(int a, int b, int v) {
        if (!isWall(a) || !isWall(b) || a >> 1 == b >> 1 || v < 0 || v > 1) {
            return BAD;
        }
        int was = room.isBarred(a, b) ? 1 : 0;
        room.setBar(a, b, v == 1);
        return was;
    }

    // ---- laid

    public int laidOut(int k, int what) {
        if (k < 0 || k > rolls.valid() || what < 0 || what > 4) {
            return BELOW_ANY + BAD;
        }
        standBehind(k);
        switch (what) {
            case 0:
                return stand.below;
            case 1:
                return stand.x;
            case 2:
                return stand.y;
            case 3:
                return stand.wide;
            default:
                return stand.deep;
        }
    }

    public int lies(int place, int k, int what) {
        if (!isPlace(place) || k < 0 || k > rolls.valid() || what < 0 || what > 1) {
            return BELOW_ANY + BAD;
        }
        standBehind(k);
        room.spotOf(place, spot);
        if (!spot.isOn(stand.below)) {
            return BELOW_ANY + NOT;
        }
        return what == 0 ? stand.planeX(spot) : stand.planeY(spot);
    }

    // ---- shortest

    public int shortest(int a, int b) {
        if (!isPlace(a) || !isPlace(b)) {
            return BAD;
        }
        return table.lengths[table.look(a, b)];
    }

    public int ways(int a, int b) {
        if (!isPlace(a) || !isPlace(b)) {
            return BAD;
        }
        return table.tallies[table.look(a, b)];
    }

    public int face(int a, int b, int i) {
        if (!isPlace(a) || !isPlace(b) || i < 0 || i >= MOST_WALLS) {
            return BAD;
        }
        return Search.wallInRow(table.rows[table.look(a, b)], i);
    }

    public int farthest(int place) {
        if (!isPlace(place)) {
            return BAD;
        }
        int farthest = NONE;
        int greatest = NONE;
        for (int other = 0; other < PLACES; other++) {
            int length = table.lengths[table.look(place, other)];
            if (length > greatest) {
                greatest = length;
                farthest = other;
            }
        }
        return farthest;
    }

    public int sit() {
        int best = NONE;
        int least = NONE;
        for (int place = 0; place < PLACES; place++) {
            int reach = reachOf(place);
            if (reach != NONE && (best == NONE || reach < least)) {
                least = reach;
                best = place;
            }
        }
        return best;
    }

    public int nearer(int a, int b) {
        if (!isPlace(a) || !isPlace(b) || a == b) {
            return BAD;
        }
        int bits = 0;
        for (int other = 0; other < PLACES; other++) {
            int fromA = table.lengths[table.look(a, other)];
            int fromB = table.lengths[table.look(b, other)];
            if (fromA != NONE && (fromB == NONE || fromA < fromB)) {
                bits |= 1 << other;
            }
        }
        return bits;
    }

    public int wires(int places, int i) {
        if (places < 0 || places >= 1 << PLACES || i < -2) {
            return BAD;
        }
        wiring.clear();
        boolean more = true;
        for (int round = 1; round < PLACES && more; round++) {
            more = wiring.joinNext(table, places);
        }
        if (i == NONE) {
            return wiring.tally;
        }
        if (i == -2) {
            return wiring.greatest;
        }
        return i < wiring.tally ? wiring.pairs[i] : NONE;
    }

    public int within(int place, int most) {
        if (!isPlace(place) || !isLength(most)) {
            return BAD;
        }
        int near = 0;
        for (int other = 0; other < PLACES; other++) {
            if (isNear(place, other, most)) {
                near++;
            }
        }
        return near;
    }

    // ---- told ways, snails, threads, flies

    public int told(int a, int i, int b, int k) {
        if (!isPlace(a) || !isPlace(b) || i < 0 || k < i || k > rolls.valid()) {
            return BAD;
        }
        standBehind(i);
        room.spotOf(a, spot);
        if (!spot.isOn(stand.below)) {
            return NOT;
        }
        line.begin(stand.planeX(spot), stand.planeY(spot));
        standBehind(k);
        room.spotOf(b, spot);
        if (!spot.isOn(stand.below)) {
            return NOT;
        }
        line.end(stand.planeX(spot), stand.planeY(spot));
        return lineStaysWithin(i, k) ? line.square() : NOT;
    }

    public int snail(int right, int up, int k, int what) {
        if (!isSlope(right) || !isSlope(up) || right == 0 && up == 0) {
            return BAD;
        }
        if (k < 0 || k > MOST_EDGES || what < 0 || what > 1) {
            return BAD;
        }
        standBehind(0);
        // Twice the middle, so that it is whole: the line begins there and never bends.
        int middleX = stand.wide;
        int middleY = stand.deep;
        int roll = 0;
        for (int edge = 0; edge < k; edge++) {
            roll = nextRoll(right, up, middleX, middleY);
            if (roll == 0) {
                return NONE;
            }
            stand.roll(roll);
        }
        return what == 0 ? stand.below : roll;
    }

    public int thread(int a, int b, int length, int what) {
        if (!isPlace(a) || !isPlace(b) || !isLength(length) || what < 0 || what > 1) {
            return BAD;
        }
        int fitting = 0;
        int least = NONE;
        for (int high = LONGEST_SIDE; high >= 1; high--) {
            if (lengthIfHigh(a, b, high) == length) {
                fitting++;
                least = high;
            }
        }
        return what == 0 ? fitting : least;
    }

    public int flies(int place, int seed, int n, int most) {
        if (!isPlace(place) || n < 0 || n > MOST_FLIES || !isLength(most)) {
            return BAD;
        }
        int near = 0;
        int lots = seed;
        for (int fly = 0; fly < n; fly++) {
            lots = 1103515245 * lots + 12345;
            if (isNear(place, (lots >>> 16) % PLACES, most)) {
                near++;
            }
        }
        return near;
    }

    // ---- sheets

    public int sheet(int s, int form, int n) {
        if (!isSheet(s) || !isForm(form) || n > MOST_ITEMS) {
            return BAD;
        }
        if (n < 0) {
            return found(SIZE);
        }
        sheets[s].renew(form, n);
        return n;
    }

    public int lose(int s) {
        if (!isSheet(s)) {
            return BAD;
        }
        Sheet sheet = sheets[s];
        if (sheet.isLost()) {
            return found(NULL);
        }
        sheet.form = LOST;
        return sheet.size;
    }

    public int lay(int s, int form, int i, int v) {
        if (!isSheet(s) || !isForm(form)) {
            return BAD;
        }
        int wrong = sheets[s].findingAt(form, i);
        if (wrong != 0) {
            return found(wrong);
        }
        sheets[s].put(i, v);
        return 1;
    }

    public int get(int s, int form, int i) {
        if (!isSheet(s) || !isForm(form)) {
            return LEAST_INT;
        }
        int wrong = sheets[s].findingAt(form, i);
        if (wrong != 0) {
            finding = wrong;
            return LEAST_INT;
        }
        return sheets[s].items[i];
    }

    public int copy(int s, int i, int t, int j, int n) {
        if (!isSheet(s) || !isSheet(t)) {
            return BAD;
        }
        Sheet source = sheets[s];
        Sheet target = sheets[t];
        if (source.isLost() || target.isLost()) {
            return found(NULL);
        }
        if (source.form != target.form) {
            return found(STORE);
        }
        if (!source.hasRun(i, n) || !target.hasRun(j, n)) {
            return found(INDEX);
        }
        System.arraycopy(source.items, i, target.items, j, n);
        return 1;
    }

    public int write(int place, int s) {
        if (!isPlace(place) || !isSheet(s)) {
            return BAD;
        }
        Sheet sheet = sheets[s];
        if (sheet.isLost()) {
            return found(NULL);
        }
        int written = Math.min(sheet.size, PLACES);
        for (int other = 0; other < written; other++) {
            sheet.put(other, table.lengths[table.look(place, other)]);
        }
        return written;
    }

    public int count(int what) {
        switch (what) {
            case 0:
                return rolls.valid();
            case 1:
                return rolls.size;
            case 2:
            case 3:
            case 4:
                return room.spans[axisOf(what - 2)];
            case 5:
                return room.barredEdges();
            case 6:
                return room.unlikePlaces();
            case 7:
                standBehind(rolls.valid());
                return stand.below;
            case 8:
                return finding;
            default:
                return BAD;
        }
    }

    public long digest() {
        long h = 17;
        for (int what = 0; what <= 7; what++) {
            h = 31 * h + count(what);
        }
        h = 31 * h + fault();
        for (int place = 0; place < PLACES; place++) {
            int next = (place + 1) % PLACES;
            for (int what = 0; what <= 3; what++) {
                h = 31 * h + at(place, what);
            }
            h = 31 * h + shortest(place, next);
            h = 31 * h + ways(place, next);
            for (int i = 0; i <= 2; i++) {
                h = 31 * h + face(place, next, i);
            }
            h = 31 * h + farthest(place);
            h = 31 * h + within(place, 200);
            h = 31 * h + lies(place, 0, 0);
        }
        int all = rolls.valid();
        for (int what = 0; what <= 4; what++) {
            h = 31 * h + laidOut(all, what);
        }
        h = 31 * h + sit();
        h = 31 * h + nearer(0, 1);
        h = 31 * h + wires(255, NONE);
        h = 31 * h + wires(255, -2);
        h = 31 * h + wires(255, 0);
        h = 31 * h + told(0, 0, 1, all);
        h = 31 * h + snail(2, 1, 5, 0);
        h = 31 * h + snail(3, -2, 8, 1);
        h = 31 * h + thread(0, 1, 100, 0);
        h = 31 * h + flies(0, 7, 20, 300);
        return h;
    }

    // ---- what the calls share

    private static boolean isPlace(int place) {
        return place >= 0 && place < PLACES;
    }

    private static boolean isWall(int wall) {
        return wall >= 0 && wall < WALLS;
    }

    private static boolean isLength(int length) {
        return length >= 0 && length <= GREATEST_LENGTH;
    }

    private static boolean isSlope(int slope) {
        return slope >= -STEEPEST && slope <= STEEPEST;
    }

    private static boolean isSheet(int s) {
        return s >= 0 && s < SHEETS;
    }

    private static boolean isForm(int form) {
        return form >= 0 && form < FORMS;
    }

    /** Sides are told as x, y, z; axes go z, x, y, as the walls do. */
    private static int axisOf(int side) {
        return (side + 1) % SIDES;
    }

    private int found(int number) {
        finding = number;
        return -10 - number;
    }

    private void standBehind(int k) {
        stand.start(0, room.spans);
        for (int i = 0; i < k && i < rolls.size; i++) {
            stand.roll(Rolls.rollOf(rolls.bytes[i]));
        }
    }

    /** The greatest length from a place to any; NONE, if one has no way. */
    private int reachOf(int place) {
        int greatest = 0;
        for (int other = 0; other < PLACES; other++) {
            int length = table.lengths[table.look(place, other)];
            if (length == NONE) {
                return NONE;
            }
            greatest = Math.max(greatest, length);
        }
        return greatest;
    }

    private boolean isNear(int place, int other, int most) {
        int length = table.lengths[table.look(place, other)];
        return length != NONE && length <= most;
    }

    private boolean lineStaysWithin(int i, int k) {
        standBehind(i);
        for (int step = i; step < k && step < rolls.size; step++) {
            int roll = Rolls.rollOf(rolls.bytes[step]);
            int from = stand.below;
            if (!line.meets(stand, roll)) {
                return false;
            }
            stand.roll(roll);
            if (room.isBarred(from, stand.below)) {
                return false;
            }
        }
        return true;
    }

    /** The roll over the edge to which the snail comes next; 0, if it comes to a corner. */
    private int nextRoll(int right, int up, int middleX, int middleY) {
        int eastward = right > 0 ? 2 * (stand.x + stand.wide) - middleX : middleX - 2 * stand.x;
        int northward = up > 0 ? 2 * (stand.y + stand.deep) - middleY : middleY - 2 * stand.y;
        // The times to both edges, each multiplied by both speeds: a speed of 0 makes the
        // other edge's time 0, so that the edge beside which the snail goes is never first.
        int timeAcross = eastward * Math.abs(up);
        int timeAlong = northward * Math.abs(right);
        if (timeAcross == timeAlong) {
            return 0;
        }
        if (timeAcross < timeAlong) {
            return right > 0 ? EAST : WEST;
        }
        return up > 0 ? NORTH : SOUTH;
    }

    /** The shortest length if the box were so high; NOT, if a place were not on it. */
    private int lengthIfHigh(int a, int b, int high) {
        System.arraycopy(room.spans, 0, trialSpans, 0, SIDES);
        trialSpans[0] = high;
        search.from.set(trialSpans, room.xs[a], room.ys[a], room.zs[a]);
        search.to.set(trialSpans, room.xs[b], room.ys[b], room.zs[b]);
        if (!search.from.isOnBox() || !search.to.isOnBox()) {
            return NOT;
        }
        search.find(trialSpans);
        return search.length;
    }

    /** A point, told by how far it is from each of the six walls. */
    private static final class Spot {
        private final int[] away = new int[WALLS];

        private void set(int[] spans, int x, int y, int z) {
            away[0] = z;
            away[1] = spans[0] - z;
            away[2] = x;
            away[3] = spans[1] - x;
            away[4] = y;
            away[5] = spans[2] - y;
        }

        private boolean isOn(int wall) {
            return away[wall] == 0;
        }

        private boolean isOnBox() {
            boolean atAnEnd = false;
            for (int wall = 0; wall < WALLS; wall++) {
                if (away[wall] < 0) {
                    return false;
                }
                atAnEnd |= away[wall] == 0;
            }
            return atAnEnd;
        }

        private int wallBits() {
            int bits = 0;
            for (int wall = 0; wall < WALLS; wall++) {
                if (away[wall] == 0) {
                    bits |= 1 << wall;
                }
            }
            return bits;
        }
    }

    /** The box's sides, the places on it and its barred edges. */
    private static final class Room {
        private final int[] spans = {30, 12, 12};
        private final int[] xs = new int[PLACES];
        private final int[] ys = new int[PLACES];
        private final int[] zs = new int[PLACES];
        private final int[] bars = new int[WALLS];
        private final Spot tried = new Spot();
        /** Grows with each change, so that what was found before it is known to be old. */
        private int changes = 1;

        private boolean holds(int x, int y, int z) {
            tried.set(spans, x, y, z);
            return tried.isOnBox();
        }

        private void move(int place, int x, int y, int z) {
            xs[place] = x;
            ys[place] = y;
            zs[place] = z;
            changes++;
        }

        private void spotOf(int place, Spot spot) {
            spot.set(spans, xs[place], ys[place], zs[place]);
        }

        private int stretch(int axis, int v) {
            int was = spans[axis];
            spans[axis] = v;
            for (int place = 0; place < PLACES; place++) {
                if (!holds(xs[place], ys[place], zs[place])) {
                    move(place, 0, 0, 0);
                }
            }
            changes++;
            return was;
        }

        private boolean isBarred(int a, int b) {
            return (bars[a] >> b & 1) == 1;
        }

        private void setBar(int a, int b, boolean barred) {
            if (barred) {
                bars[a] |= 1 << b;
                bars[b] |= 1 << a;
            } else {
                bars[a] &= ~(1 << b);
                bars[b] &= ~(1 << a);
            }
            changes++;
        }

        private int barredEdges() {
            int twice = 0;
            for (int wall = 0; wall < WALLS; wall++) {
                twice += Integer.bitCount(bars[wall]);
            }
            return twice / 2;
        }

        private int unlikePlaces() {
            int unlike = 0;
            for (int place = 0; place < PLACES; place++) {
                if (!hasLikeBefore(place)) {
                    unlike++;
                }
            }
            return unlike;
        }

        private boolean hasLikeBefore(int place) {
            for (int other = 0; other < place; other++) {
                if (xs[other] == xs[place] && ys[other] == ys[place] && zs[other] == zs[place]) {
                    return true;
                }
            }
            return false;
        }
    }

    /** The text of rolls, byte by byte, as it was typed. */
    private static final class Rolls {
        private final int[] bytes = new int[MOST_BYTES];
        private int size = 0;

        private static int rollOf(int b) {
            switch (b) {
                case 'e':
                    return EAST;
                case 'w':
                    return WEST;
                case 'n':
                    return NORTH;
                case 's':
                    return SOUTH;
                default:
                    return 0;
            }
        }

        private void append(int b) {
            if (size < MOST_BYTES) {
                bytes[size] = b;
                size++;
            }
        }

        private int firstWrong() {
            for (int i = 0; i < size; i++) {
                if (i >= MOST_ROLLS || rollOf(bytes[i]) == 0) {
                    return i;
                }
            }
            return NONE;
        }

        /** How many rolls there are: none at all with a fault. */
        private int valid() {
            return firstWrong() == NONE ? size : 0;
        }
    }

    /** The box as it stands on the plane: which walls lie where, and its south west corner. */
    private static final class Stand {
        private int below;
        private int east;
        private int north;
        private int x;
        private int y;
        private int wide;
        private int deep;
        private int tall;

        /** On a wall, at 0, 0; on wall 0 with x to the east and y to the north. */
        private void start(int wall, int[] spans) {
            below = wall;
            east = wall >> 1 == 1 ? 5 : 3;
            north = wall >> 1 == 0 ? 5 : 1;
            x = 0;
            y = 0;
            wide = spans[east >> 1];
            deep = spans[north >> 1];
            tall = spans[below >> 1];
        }

        private void follow(Stand before, int roll) {
            below = before.below;
            east = before.east;
            north = before.north;
            x = before.x;
            y = before.y;
            wide = before.wide;
            deep = before.deep;
            tall = before.tall;
            roll(roll);
        }

        private void roll(int roll) {
            int oldBelow = below;
            int oldTall = tall;
            if (roll == EAST) {
                below = east;
                east = oldBelow ^ 1;
                x += wide;
                tall = wide;
                wide = oldTall;
            } else if (roll == WEST) {
                below = east ^ 1;
                east = oldBelow;
                x -= tall;
                tall = wide;
                wide = oldTall;
            } else if (roll == NORTH) {
                below = north;
                north = oldBelow ^ 1;
                y += deep;
                tall = deep;
                deep = oldTall;
            } else if (roll == SOUTH) {
                below = north ^ 1;
                north = oldBelow;
                y -= tall;
                tall = deep;
                deep = oldTall;
            }
        }

        /** The roll that brings a wall below; 0, if none does. */
        private int rollTo(int wall) {
            if (wall == east) {
                return EAST;
            }
            if (wall == (east ^ 1)) {
                return WEST;
            }
            if (wall == north) {
                return NORTH;
            }
            return wall == (north ^ 1) ? SOUTH : 0;
        }

        private int planeX(Spot spot) {
            return x + spot.away[east ^ 1];
        }

        private int planeY(Spot spot) {
            return y + spot.away[north ^ 1];
        }
    }

    /** A straight line on the plane, from one point to another. */
    private static final class Line {
        private int fromX;
        private int fromY;
        private int toX;
        private int toY;

        private void begin(int x, int y) {
            fromX = x;
            fromY = y;
        }

        private void end(int x, int y) {
            toX = x;
            toY = y;
        }

        private int square() {
            return (toX - fromX) * (toX - fromX) + (toY - fromY) * (toY - fromY);
        }

        /** Whether it meets the edge over which the box would be rolled, the ends counted in. */
        private boolean meets(Stand stand, int roll) {
            boolean upright = roll == EAST || roll == WEST;
            // Seen from where the line begins, and turned so that the edge lies across it.
            int ahead = upright ? toX - fromX : toY - fromY;
            int aside = upright ? toY - fromY : toX - fromX;
            int distance = upright ? stand.x - fromX : stand.y - fromY;
            int low = upright ? stand.y - fromY : stand.x - fromX;
            int high = low + (upright ? stand.deep : stand.wide);
            if (roll == EAST) {
                distance += stand.wide;
            } else if (roll == NORTH) {
                distance += stand.deep;
            }
            if (ahead == 0) {
                return distance == 0 && (low <= 0 || low <= aside) && (high >= 0 || high >= aside);
            }
            if (ahead < 0) {
                ahead = -ahead;
                distance = -distance;
            }
            // It comes to the edge's line at aside * distance / ahead: multiplied, to be exact.
            int met = aside * distance;
            return distance >= 0 && distance <= ahead && low * ahead <= met && met <= high * ahead;
        }
    }

    /** All ways between two spots: the least length, how many have it, and the first row. */
    private static final class Search {
        private final Room room;
        private final Spot from = new Spot();
        private final Spot to = new Spot();
        private final Line line = new Line();
        private final Stand[] stands = new Stand[MOST_WALLS];
        private final int[] rolled = new int[MOST_WALLS];
        /** The walls, as bits, on which the way may end. */
        private int goals;
        private int length;
        private int tally;
        private int row;
        private int rowWalls;

        private Search(Room room) {
            this.room = room;
            for (int depth = 0; depth < MOST_WALLS; depth++) {
                stands[depth] = new Stand();
            }
        }

        private void find(int[] spans) {
            goals = to.wallBits();
            length = NONE;
            tally = 0;
            row = 0;
            rowWalls = 0;
            for (int wall = 0; wall < WALLS; wall++) {
                if (from.isOn(wall)) {
                    stands[0].start(wall, spans);
                    extend(0, 1 << wall);
                }
            }
        }

        /** Walls are tried by their numbers, so the rows come in order. */
        private void extend(int depth, int seen) {
            Stand here = stands[depth];
            if ((goals >> here.below & 1) == 1) {
                weigh(depth);
            }
            int next = depth + 1;
            if (next >= MOST_WALLS) {
                return;
            }
            int shut = seen | room.bars[here.below] | 1 << (here.below ^ 1);
            if (next + 1 == MOST_WALLS) {
                // A last wall without the goal would be laid for nothing.
                shut |= ~goals;
            }
            for (int wall = 0; wall < WALLS; wall++) {
                if ((shut >> wall & 1) == 0) {
                    rolled[depth] = here.rollTo(wall);
                    stands[next].follow(here, rolled[depth]);
                    extend(next, seen | 1 << wall);
                }
            }
        }

        private void weigh(int depth) {
            line.begin(stands[0].planeX(from), stands[0].planeY(from));
            line.end(stands[depth].planeX(to), stands[depth].planeY(to));
            int square = line.square();
            if (length != NONE && square > length) {
                return;
            }
            for (int step = 0; step < depth; step++) {
                if (!line.meets(stands[step], rolled[step])) {
                    return;
                }
            }
            boolean shorter = length == NONE || square < length;
            tally = shorter ? 1 : tally + 1;
            if (shorter || depth + 1 < rowWalls) {
                length = square;
                rowWalls = depth + 1;
                row = packedRow(depth);
            }
        }

        /** Three bits for each wall, its number and 1, so that 0 means that there is none. */
        private int packedRow(int depth) {
            int packed = 0;
            for (int i = 0; i <= depth; i++) {
                packed |= stands[i].below + 1 << 3 * i;
            }
            return packed;
        }

        private static int wallInRow(int packed, int i) {
            return (packed >> 3 * i & 7) - 1;
        }
    }

    /** What was found between any two places, kept as long as nothing changes. */
    private static final class Table {
        private final Room room;
        private final Search search;
        private final int[] lengths = new int[PLACES * PLACES];
        private final int[] tallies = new int[PLACES * PLACES];
        private final int[] rows = new int[PLACES * PLACES];
        private final int[] madeAt = new int[PLACES * PLACES];

        private Table(Room room, Search search) {
            this.room = room;
            this.search = search;
        }

        /** Where the entry of two places stands, which is made anew if it is old. */
        private int look(int a, int b) {
            int entry = PLACES * a + b;
            if (madeAt[entry] != room.changes) {
                room.spotOf(a, search.from);
                room.spotOf(b, search.to);
                search.find(room.spans);
                lengths[entry] = search.length;
                tallies[entry] = search.tally;
                rows[entry] = search.row;
                madeAt[entry] = room.changes;
            }
            return entry;
        }
    }

    /** Places joined two by two, the shortest first. */
    private static final class Wiring {
        private final int[] groups = new int[PLACES];
        private final int[] pairs = new int[PLACES];
        private int tally;
        private int greatest;

        private void clear() {
            tally = 0;
            greatest = 0;
            for (int place = 0; place < PLACES; place++) {
                groups[place] = place;
            }
        }

        /** Joins the two that are next; false, if there are none. */
        private boolean joinNext(Table table, int places) {
            int next = NONE;
            int least = NONE;
            for (int pair = 0; pair < PLACES * PLACES; pair++) {
                if (isOpen(pair, places)) {
                    int length = table.lengths[table.look(pair / PLACES, pair % PLACES)];
                    if (length != NONE && (next == NONE || length < least)) {
                        next = pair;
                        least = length;
                    }
                }
            }
            if (next == NONE || tally >= PLACES) {
                return false;
            }
            pairs[tally] = next;
            tally++;
            greatest = least;
            unite(groups[next / PLACES], groups[next % PLACES]);
            return true;
        }

        private boolean isOpen(int pair, int places) {
            int a = pair / PLACES;
            int b = pair % PLACES;
            boolean both = (places >> a & 1) == 1 && (places >> b & 1) == 1;
            return a < b && both && groups[a] != groups[b];
        }

        private void unite(int kept, int given) {
            for (int place = 0; place < PLACES; place++) {
                if (groups[place] == given) {
                    groups[place] = kept;
                }
            }
        }
    }

    /** A row of items of one form, which holds room for the most that there may be. */
    private static final class Sheet {
        private final int[] items = new int[MOST_ITEMS];
        private int form = LOST;
        private int size = 0;

        private boolean isLost() {
            return form == LOST;
        }

        private void renew(int newForm, int n) {
            form = newForm;
            size = n;
            for (int i = 0; i < MOST_ITEMS; i++) {
                items[i] = 0;
            }
        }

        /** What speaks against using item i as of a form; 0 for nothing. */
        private int findingAt(int wanted, int i) {
            if (isLost()) {
                return NULL;
            }
            if (form != wanted) {
                return CAST;
            }
            return i < 0 || i >= size ? INDEX : 0;
        }

        private void put(int i, int v) {
            if (form == BYTES) {
                items[i] = (byte) v;
            } else if (form == SHORTS) {
                items[i] = (short) v;
            } else {
                items[i] = v;
            }
        }

        private boolean hasRun(int i, int n) {
            return i >= 0 && n >= 0 && i <= size && n <= size - i;
        }
    }
}
