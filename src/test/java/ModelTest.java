import java.math.BigInteger;
import java.util.ArrayList;
import java.util.Arrays;
import java.util.Comparator;
import java.util.HashSet;
import java.util.List;
import java.util.Set;

// Long runs of calls, each answered by a second program too, which unfolds the walls by maps
// from space to the plane (not by rolling) and keeps nothing between its calls.
public final class ModelTest {
    private static final int RUNS = 300, CALLS = 150;
    private static int wrong = 0;
    private static long lot = 20261118L;

    private static int lotOf(int m) {
        lot = lot * 6364136223846793005L + 1442695040888963407L;
        return (int) ((lot >>> 33) % m);
    }

    private static int between(int least, int greatest) {
        return least + lotOf(greatest - least + 1);
    }

    // Mostly a number as told, at times one beside it, at times any.
    private static int around(int least, int greatest) {
        int kind = lotOf(40);
        if (kind == 0) {
            int[] odd = {Integer.MIN_VALUE, Integer.MAX_VALUE, least - 1, greatest + 1, -1, 0, 1 << 16, -5};
            return odd[lotOf(odd.length)];
        }
        return between(least, greatest);
    }

    public static void main(String[] args) {
        for (int run = 0; run < RUNS && wrong < 20; run++) {
            oneRun(run);
        }
        manyShortest();
        System.out.println(wrong == 0 ? "both programs agree" : wrong + " answers differ");
        if (wrong != 0) {
            System.exit(1);
        }
    }

    private static void same(int run, String call, long got, long want) {
        if (got != want) {
            wrong++;
            System.out.println("run " + run + ": " + call + " answered " + got + ", the model " + want);
        }
    }

    private static void oneRun(int run) {
        BoxSpider b = new BoxSpider();
        Model m = new Model();
        Model.KNOWN.clear();
        // Small boxes have many like lengths; large ones try the bounds.
        int most = new int[] {2, 3, 6, 12, 30}[run % 5];
        for (int s = 0; s < 3; s++) {
            int v = between(1, most);
            same(run, "side", b.side(s, v), m.side(s, v));
        }
        for (int s = 0; s < 3; s++) {
            int form = lotOf(3) / 2 + run % 2;
            int n = between(0, 30);
            same(run, "sheet", b.sheet(s, form, n), m.sheet(s, form, n));
        }
        for (int call = 0; call < CALLS && wrong < 20; call++) {
            int[] a = new int[5];
            int which = lotOf(38);
            for (int i = 0; i < 5; i++) {
                a[i] = argument(which, i, m);
            }
            if (which == 21 && lotOf(2) == 0) {
                a[2] = m.length(a[0] & 7, a[1] & 7);
            }
            if ((which == 24 || which == 25) && lotOf(2) == 0 && m.sheets[a[0] & 3] != null) {
                a[1] = Model.form(m.sheets[a[0] & 3]);
            }
            String name = which + Arrays.toString(a);
            same(run, name, answer(b, which, a), answer(m, which, a));
        }
        same(run, "digest", b.digest(), m.digest());
        for (int what = 0; what <= 8; what++) {
            same(run, "count " + what, b.count(what), m.count(what));
        }
    }

    private static int argument(int which, int i, Model m) {
        switch (which) {
            case 0: return i == 0 ? around(0, 2) : around(1, 30);
            case 1: case 32: case 33: case 34: case 35: return i == 0 ? around(0, 7) : placeNumber(i, m);
            case 2: return i == 0 ? around(0, 7) : around(0, 3);
            case 3: case 26: return around(0, 3);
            case 4: case 36: return lotOf(20) == 0 ? around(0, 255) : "ewns".charAt(lotOf(4));
            case 8: return i < 2 ? around(0, 5) : around(0, 1);
            case 9: return i == 0 ? around(0, m.rolls()) : around(0, 4);
            case 10: return i == 0 ? around(0, 7) : i == 1 ? around(0, m.rolls()) : around(0, 1);
            case 13: return i < 2 ? around(0, 7) : around(0, 4);
            case 17: return i == 0 ? around(0, 255) : around(-2, 7);
            case 18: return i == 0 ? around(0, 7) : around(0, lotOf(2) == 0 ? 60 : 9999);
            case 19: case 37: return i % 2 == 0 ? around(0, 7) : around(0, m.rolls());
            case 20: return i < 2 ? around(-9, 9) : i == 2 ? around(0, 30) : around(0, 1);
            case 21: return i < 2 ? around(0, 7) : i == 2 ? around(0, lotOf(2) == 0 ? 60 : 1200) : around(0, 1);
            case 22: return i == 0 ? around(0, 7) : i == 1 ? (int) (lot >>> 16) : i == 2 ? around(0, 99) : around(0, 900);
            case 23: return i == 0 ? around(0, 3) : i == 1 ? around(0, 2) : around(0, lotOf(2) == 0 ? 12 : 60);
            case 24: return i == 0 ? around(0, 3) : i == 1 ? around(0, 2) : i == 2 ? around(0, 12) : around(-3, 40);
            case 25: return i == 0 ? around(0, 3) : i == 1 ? around(0, 2) : around(0, 12);
            case 27: return i == 0 || i == 2 ? around(0, 3) : around(0, 8);
            case 28: return i == 0 ? around(0, 7) : around(0, 3);
            case 29: return around(0, 8);
            default: return around(0, 7);
        }
    }

    private static int placeNumber(int i, Model m) {
        int side = m.sides[i > 3 ? 0 : i - 1];
        return lotOf(30) == 0 ? around(0, side) : lotOf(2) == 0 ? between(0, side) : lotOf(2) * side;
    }

    private static long answer(BoxSpider b, int which, int[] a) {
        switch (which) {
            case 0: return b.side(a[0], a[1]);
            case 1: case 32: case 33: case 34: case 35: return b.place(a[0], a[1], a[2], a[3]);
            case 2: return b.at(a[0], a[1]);
            case 3: return b.read(a[0]);
            case 4: case 36: return b.type(a[0]);
            case 5: return b.undo();
            case 6: return lotIsRare(a) ? b.wipe() : b.fault();
            case 7: return b.fault();
            case 8: return b.bar(a[0], a[1], a[2]);
            case 9: return b.laidOut(a[0], a[1]);
            case 10: return b.lies(a[0], a[1], a[2]);
            case 11: return b.shortest(a[0], a[1]);
            case 12: return b.ways(a[0], a[1]);
            case 13: return b.face(a[0], a[1], a[2]);
            case 14: return b.farthest(a[0]);
            case 15: return b.sit();
            case 16: return b.nearer(a[0], a[1]);
            case 17: return b.wires(a[0], a[1]);
            case 18: return b.within(a[0], a[1]);
            case 19: case 37: return b.told(a[0], Math.min(a[1], a[3]), a[2], Math.max(a[1], a[3]));
            case 20: return b.snail(a[0], a[1], a[2], a[3]);
            case 21: return b.thread(a[0], a[1], a[2], a[3]);
            case 22: return b.flies(a[0], a[1], a[2], a[3]);
            case 23: return b.sheet(a[0], a[1], a[2]);
            case 24: return b.lay(a[0], a[1], a[2], a[3]);
            case 25: return b.get(a[0], a[1], a[2]);
            case 26: return lotIsRare(a) ? b.lose(a[0]) : b.count(8);
            case 27: return b.copy(a[0], a[1], a[2], a[3], a[4]);
            case 28: return b.write(a[0], a[1]);
            case 29: return b.count(a[0]);
            case 30: return lotIsRare(a) ? b.digest() : b.sit();
            default: return b.told(a[0], a[1], a[2], a[3]);
        }
    }

    private static long answer(Model b, int which, int[] a) {
        switch (which) {
            case 0: return b.side(a[0], a[1]);
            case 1: case 32: case 33: case 34: case 35: return b.place(a[0], a[1], a[2], a[3]);
            case 2: return b.at(a[0], a[1]);
            case 3: return b.read(a[0]);
            case 4: case 36: return b.type(a[0]);
            case 5: return b.undo();
            case 6: return lotIsRare(a) ? b.wipe() : b.fault();
            case 7: return b.fault();
            case 8: return b.bar(a[0], a[1], a[2]);
            case 9: return b.laidOut(a[0], a[1]);
            case 10: return b.lies(a[0], a[1], a[2]);
            case 11: return b.shortest(a[0], a[1]);
            case 12: return b.ways(a[0], a[1]);
            case 13: return b.face(a[0], a[1], a[2]);
            case 14: return b.farthest(a[0]);
            case 15: return b.sit();
            case 16: return b.nearer(a[0], a[1]);
            case 17: return b.wires(a[0], a[1]);
            case 18: return b.within(a[0], a[1]);
            case 19: case 37: return b.told(a[0], Math.min(a[1], a[3]), a[2], Math.max(a[1], a[3]));
            case 20: return b.snail(a[0], a[1], a[2], a[3]);
            case 21: return b.thread(a[0], a[1], a[2], a[3]);
            case 22: return b.flies(a[0], a[1], a[2], a[3]);
            case 23: return b.sheet(a[0], a[1], a[2]);
            case 24: return b.lay(a[0], a[1], a[2], a[3]);
            case 25: return b.get(a[0], a[1], a[2]);
            case 26: return lotIsRare(a) ? b.lose(a[0]) : b.count(8);
            case 27: return b.copy(a[0], a[1], a[2], a[3], a[4]);
            case 28: return b.write(a[0], a[1]);
            case 29: return b.count(a[0]);
            case 30: return lotIsRare(a) ? b.digest() : b.sit();
            default: return b.told(a[0], a[1], a[2], a[3]);
        }
    }

    private static boolean lotIsRare(int[] a) {
        return Math.floorMod(a[1] + a[2], 4) == 0;
    }

    // All pairs of many places on many boxes, some with bars.
    private static void manyShortest() {
        for (int box = 0; box < 150 && wrong < 20; box++) {
            BoxSpider b = new BoxSpider();
            Model m = new Model();
            for (int s = 0; s < 3; s++) {
                int v = between(1, box < 70 ? 5 : 30);
                b.side(s, v);
                m.side(s, v);
            }
            for (int p = 0; p < 8; p++) {
                int[] c = new int[3];
                for (int i = 0; i < 3; i++) {
                    c[i] = between(0, m.sides[i]);
                }
                int end = lotOf(3);
                c[end] = lotOf(2) * m.sides[end];
                same(box, "place", b.place(p, c[0], c[1], c[2]), m.place(p, c[0], c[1], c[2]));
            }
            for (int bars = box % 4 * 2; bars > 0; bars--) {
                int x = lotOf(6);
                int y = lotOf(6);
                same(box, "bar", b.bar(x, y, 1), m.bar(x, y, 1));
            }
            for (int pair = 0; pair < 64; pair++) {
                same(box, "shortest", b.shortest(pair / 8, pair % 8), m.shortest(pair / 8, pair % 8));
                same(box, "ways", b.ways(pair / 8, pair % 8), m.ways(pair / 8, pair % 8));
                for (int i = 0; i < 5; i++) {
                    same(box, "face", b.face(pair / 8, pair % 8, i), m.face(pair / 8, pair % 8, i));
                }
            }
        }
    }

    /** A wall laid on the plane: a point in space goes to origin + its parts along two axes. */
    private static final class Map2 {
        final int wall;
        final long[] ux = new long[4], uy = new long[4];

        Map2(int wall) {
            this.wall = wall;
        }

        long x(int[] p) {
            return ux[0] * p[0] + ux[1] * p[1] + ux[2] * p[2] + ux[3];
        }

        long y(int[] p) {
            return uy[0] * p[0] + uy[1] * p[1] + uy[2] * p[2] + uy[3];
        }
    }

    private static final class Way {
        long square;
        List<Integer> row;
    }

    private static final class Model {
        int[] sides = {12, 12, 30};
        int[][] places = new int[8][3];
        List<Integer> text = new ArrayList<>();
        Set<Integer> bars = new HashSet<>();
        Object[] sheets = new Object[4];
        int finding = 0;

        // ---- geometry

        static int axis(int wall) {
            return new int[] {2, 2, 0, 0, 1, 1}[wall];
        }

        static int end(int[] sides, int wall) {
            return wall % 2 == 0 ? 0 : sides[axis(wall)];
        }

        static boolean on(int[] sides, int[] p, int wall) {
            return p[axis(wall)] == end(sides, wall);
        }

        static boolean holds(int[] sides, int[] p) {
            boolean some = false;
            for (int i = 0; i < 3; i++) {
                if (p[i] < 0 || p[i] > sides[i]) {
                    return false;
                }
                some |= p[i] == 0 || p[i] == sides[i];
            }
            return some;
        }

        static int[][] edge(int[] sides, int a, int b) {
            int free = 3 - axis(a) - axis(b);
            int[][] ends = new int[2][3];
            for (int i = 0; i < 2; i++) {
                ends[i][axis(a)] = end(sides, a);
                ends[i][axis(b)] = end(sides, b);
                ends[i][free] = i * sides[free];
            }
            return ends;
        }

        static Map2 flat(int wall) {
            Map2 m = new Map2(wall);
            int first = axis(wall) == 0 ? 1 : 0;
            int second = 3 - axis(wall) - first;
            m.ux[first] = 1;
            m.uy[second] = 1;
            return m;
        }

        // Folds wall b flat beside a: what lay at right angles to a goes on away from a.
        static Map2 unfold(int[] sides, Map2 a, int b) {
            Map2 m = new Map2(b);
            int gone = axis(b);
            int out = axis(a.wall);
            int sign = (b % 2 == 0 ? -1 : 1) * (a.wall % 2 == 0 ? 1 : -1);
            int free = 3 - gone - out;
            m.ux[free] = a.ux[free];
            m.uy[free] = a.uy[free];
            m.ux[out] = sign * a.ux[gone];
            m.uy[out] = sign * a.uy[gone];
            int[] corner = edge(sides, a.wall, b)[0];
            m.ux[3] = a.x(corner) - m.x(corner);
            m.uy[3] = a.y(corner) - m.y(corner);
            return m;
        }

        static int turn(long ax, long ay, long bx, long by, long cx, long cy) {
            return Long.signum((bx - ax) * (cy - ay) - (by - ay) * (cx - ax));
        }

        static boolean inBox(long ax, long ay, long bx, long by, long cx, long cy) {
            return Math.min(ax, bx) <= cx && cx <= Math.max(ax, bx) && Math.min(ay, by) <= cy && cy <= Math.max(ay, by);
        }

        static boolean cross(long[] p, long[] q, long[] r, long[] s) {
            int d1 = turn(p[0], p[1], q[0], q[1], r[0], r[1]);
            int d2 = turn(p[0], p[1], q[0], q[1], s[0], s[1]);
            int d3 = turn(r[0], r[1], s[0], s[1], p[0], p[1]);
            int d4 = turn(r[0], r[1], s[0], s[1], q[0], q[1]);
            if (d1 * d2 < 0 && d3 * d4 < 0) {
                return true;
            }
            return d1 == 0 && inBox(p[0], p[1], q[0], q[1], r[0], r[1])
                || d2 == 0 && inBox(p[0], p[1], q[0], q[1], s[0], s[1])
                || d3 == 0 && inBox(r[0], r[1], s[0], s[1], p[0], p[1])
                || d4 == 0 && inBox(r[0], r[1], s[0], s[1], q[0], q[1]);
        }

        boolean barred(int a, int b) {
            return bars.contains(10 * Math.min(a, b) + Math.max(a, b));
        }

        // The square of a straight way over laid walls; -1, if it leaves them.
        long straight(int[] s, List<Map2> maps, int[] from, int[] to) {
            Map2 last = maps.get(maps.size() - 1);
            if (!on(s, from, maps.get(0).wall) || !on(s, to, last.wall)) {
                return -1;
            }
            long[] p = {maps.get(0).x(from), maps.get(0).y(from)};
            long[] q = {last.x(to), last.y(to)};
            for (int i = 0; i + 1 < maps.size(); i++) {
                int[][] ends = edge(s, maps.get(i).wall, maps.get(i + 1).wall);
                Map2 m = maps.get(i);
                long[] r = {m.x(ends[0]), m.y(ends[0])};
                long[] t = {m.x(ends[1]), m.y(ends[1])};
                if (barred(m.wall, maps.get(i + 1).wall) || !cross(p, q, r, t)) {
                    return -1;
                }
            }
            return (p[0] - q[0]) * (p[0] - q[0]) + (p[1] - q[1]) * (p[1] - q[1]);
        }

        // All rows of one to five walls, side by side, none twice.
        static final List<int[]> ROWS = allRows();

        static List<int[]> allRows() {
            List<int[]> rows = new ArrayList<>();
            for (int n = 1; n <= 5; n++) {
                for (int code = 0; code < Math.pow(6, n); code++) {
                    int[] row = new int[n];
                    int rest = code;
                    for (int i = n - 1; i >= 0; i--) {
                        row[i] = rest % 6;
                        rest /= 6;
                    }
                    if (isRow(row)) {
                        rows.add(row);
                    }
                }
            }
            return rows;
        }

        static boolean isRow(int[] row) {
            int seen = 0;
            for (int i = 0; i < row.length; i++) {
                if ((seen >> row[i] & 1) == 1 || i > 0 && axis(row[i]) == axis(row[i - 1])) {
                    return false;
                }
                seen |= 1 << row[i];
            }
            return true;
        }

        List<Way> allWays(int[] s, int[] from, int[] to) {
            List<Way> found = new ArrayList<>();
            for (int[] walls : ROWS) {
                if (on(s, from, walls[0]) && on(s, to, walls[walls.length - 1])) {
                    addWay(found, s, from, to, walls);
                }
            }
            found.sort(Comparator.comparingLong((Way w) -> w.square).thenComparingInt(w -> w.row.size())
                .thenComparing(w -> w.row.toString()));
            return found;
        }

        void addWay(List<Way> found, int[] s, int[] from, int[] to, int[] walls) {
            List<Map2> maps = new ArrayList<>();
            List<Integer> row = new ArrayList<>();
            for (int i = 0; i < walls.length; i++) {
                maps.add(i == 0 ? flat(walls[0]) : unfold(s, maps.get(i - 1), walls[i]));
                row.add(walls[i]);
            }
            Way w = new Way();
            w.square = straight(s, maps, from, to);
            w.row = row;
            if (w.square >= 0) {
                found.add(w);
            }
        }

        // What was searched once for the same box, places and bars is not searched again.
        static final java.util.Map<String, List<Way>> KNOWN = new java.util.HashMap<>();

        List<Way> best(int[] s, int[] from, int[] to) {
            String key = Arrays.toString(s) + Arrays.toString(from) + Arrays.toString(to) + bars;
            List<Way> kept = KNOWN.get(key);
            if (kept == null) {
                List<Way> all = allWays(s, from, to);
                kept = new ArrayList<>();
                for (Way w : all) {
                    if (w.square == all.get(0).square) {
                        kept.add(w);
                    }
                }
                KNOWN.put(key, kept);
            }
            return kept;
        }

        int length(int a, int b) {
            List<Way> w = best(sides, places[a], places[b]);
            return w.isEmpty() ? -1 : (int) w.get(0).square;
        }

        // ---- the face

        static boolean out(int v, int least, int greatest) {
            return v < least || v > greatest;
        }

        int side(int side, int v) {
            if (out(side, 0, 2) || out(v, 1, 30)) {
                return -2;
            }
            int was = sides[side];
            sides[side] = v;
            for (int p = 0; p < 8; p++) {
                if (!holds(sides, places[p])) {
                    places[p] = new int[3];
                }
            }
            return was;
        }

        int place(int place, int x, int y, int z) {
            int[] p = {x, y, z};
            if (out(place, 0, 7) || !holds(sides, p)) {
                return -2;
            }
            places[place] = p;
            return 1;
        }

        int at(int place, int what) {
            if (out(place, 0, 7) || out(what, 0, 3)) {
                return -2;
            }
            if (what < 3) {
                return places[place][what];
            }
            int bits = 0;
            for (int wall = 0; wall < 6; wall++) {
                bits += on(sides, places[place], wall) ? 1 << wall : 0;
            }
            return bits;
        }

        int finds(int number) {
            finding = number;
            return -10 - number;
        }

        static int size(Object o) {
            return java.lang.reflect.Array.getLength(o);
        }

        static int item(Object o, int i) {
            return ((Number) java.lang.reflect.Array.get(o, i)).intValue();
        }

        static void store(Object o, int i, int v) {
            if (o instanceof byte[]) {
                ((byte[]) o)[i] = (byte) v;
            } else if (o instanceof short[]) {
                ((short[]) o)[i] = (short) v;
            } else {
                ((int[]) o)[i] = v;
            }
        }

        static int form(Object o) {
            return o instanceof byte[] ? 0 : o instanceof short[] ? 1 : 2;
        }

        int read(int s) {
            if (out(s, 0, 3)) {
                return -2;
            }
            if (sheets[s] == null) {
                return finds(1);
            }
            int n = 0;
            while (n < 8 && 3 * n + 2 < size(sheets[s])
                && place(n, item(sheets[s], 3 * n), item(sheets[s], 3 * n + 1), item(sheets[s], 3 * n + 2)) == 1) {
                n++;
            }
            return n;
        }

        int type(int b) {
            if (out(b, 0, 255)) {
                return -2;
            }
            if (text.size() == 40) {
                return -4;
            }
            text.add(b);
            return text.size();
        }

        int undo() {
            if (text.isEmpty()) {
                return -3;
            }
            text.remove(text.size() - 1);
            return text.size();
        }

        int wipe() {
            int had = text.size();
            text.clear();
            return had;
        }

        int fault() {
            for (int i = 0; i < text.size(); i++) {
                if (i == 20 || "ewns".indexOf(text.get(i)) < 0) {
                    return i;
                }
            }
            return -1;
        }

        int rolls() {
            return fault() == -1 ? text.size() : 0;
        }

        int bar(int a, int b, int v) {
            if (out(a, 0, 5) || out(b, 0, 5) || axis(a) == axis(b) || out(v, 0, 1)) {
                return -2;
            }
            int key = 10 * Math.min(a, b) + Math.max(a, b);
            boolean was = v == 1 ? !bars.add(key) : bars.remove(key);
            return was ? 1 : 0;
        }

        // The maps of the walls behind the rolls i to k, as they lie on the plane.
        List<Map2> laid(int i, int k) {
            List<Map2> maps = new ArrayList<>();
            Map2 m = flat(0);
            for (int n = 0; n <= k; n++) {
                if (n > 0) {
                    m = unfold(sides, m, ahead(m, (char) (int) text.get(n - 1)));
                }
                if (n >= i) {
                    maps.add(m);
                }
            }
            return maps;
        }

        long[] bounds(Map2 m) {
            long[] b = {Long.MAX_VALUE, Long.MAX_VALUE, Long.MIN_VALUE, Long.MIN_VALUE};
            for (int corner = 0; corner < 8; corner++) {
                int[] p = {(corner & 1) * sides[0], (corner >> 1 & 1) * sides[1], (corner >> 2) * sides[2]};
                if (on(sides, p, m.wall)) {
                    b[0] = Math.min(b[0], m.x(p));
                    b[1] = Math.min(b[1], m.y(p));
                    b[2] = Math.max(b[2], m.x(p));
                    b[3] = Math.max(b[3], m.y(p));
                }
            }
            return b;
        }

        // The wall whose edge with the one below lies on that side of it on the plane.
        int ahead(Map2 m, char letter) {
            long[] b = bounds(m);
            for (int wall = 0; wall < 6; wall++) {
                if (axis(wall) != axis(m.wall)) {
                    int[][] e = edge(sides, m.wall, wall);
                    boolean upright = m.x(e[0]) == m.x(e[1]);
                    if (letter == 'e' && upright && m.x(e[0]) == b[2] || letter == 'w' && upright && m.x(e[0]) == b[0]
                        || letter == 'n' && !upright && m.y(e[0]) == b[3]
                        || letter == 's' && !upright && m.y(e[0]) == b[1]) {
                        return wall;
                    }
                }
            }
            throw new IllegalStateException("no wall ahead");
        }

        int laidOut(int k, int what) {
            if (out(k, 0, rolls()) || out(what, 0, 4)) {
                return -10002;
            }
            Map2 m = laid(k, k).get(0);
            long[] b = bounds(m);
            long[] all = {m.wall, b[0], b[1], b[2] - b[0], b[3] - b[1]};
            return (int) all[what];
        }

        int lies(int place, int k, int what) {
            if (out(place, 0, 7) || out(k, 0, rolls()) || out(what, 0, 1)) {
                return -10002;
            }
            Map2 m = laid(k, k).get(0);
            if (!on(sides, places[place], m.wall)) {
                return -10003;
            }
            return (int) (what == 0 ? m.x(places[place]) : m.y(places[place]));
        }

        int shortest(int a, int b) {
            return out(a, 0, 7) || out(b, 0, 7) ? -2 : length(a, b);
        }

        int ways(int a, int b) {
            return out(a, 0, 7) || out(b, 0, 7) ? -2 : best(sides, places[a], places[b]).size();
        }

        int face(int a, int b, int i) {
            if (out(a, 0, 7) || out(b, 0, 7) || out(i, 0, 4)) {
                return -2;
            }
            List<Way> w = best(sides, places[a], places[b]);
            return w.isEmpty() || i >= w.get(0).row.size() ? -1 : w.get(0).row.get(i);
        }

        int farthest(int place) {
            if (out(place, 0, 7)) {
                return -2;
            }
            int best = place;
            for (int p = 7; p >= 0; p--) {
                best = length(place, p) >= length(place, best) ? p : best;
            }
            return best;
        }

        int sit() {
            long least = Long.MAX_VALUE;
            int best = -1;
            for (int p = 0; p < 8; p++) {
                long reach = 0;
                for (int q = 0; q < 8; q++) {
                    reach = Math.max(reach, length(p, q) < 0 ? Long.MAX_VALUE : length(p, q));
                }
                if (reach < least) {
                    least = reach;
                    best = p;
                }
            }
            return best;
        }

        int nearer(int a, int b) {
            if (out(a, 0, 7) || out(b, 0, 7) || a == b) {
                return -2;
            }
            int bits = 0;
            for (int p = 0; p < 8; p++) {
                long da = length(a, p) < 0 ? Long.MAX_VALUE : length(a, p);
                long db = length(b, p) < 0 ? Long.MAX_VALUE : length(b, p);
                bits += da < db ? 1 << p : 0;
            }
            return bits;
        }

        int wires(int set, int i) {
            if (out(set, 0, 255) || i < -2) {
                return -2;
            }
            List<int[]> pairs = new ArrayList<>();
            for (int a = 0; a < 8; a++) {
                for (int b = a + 1; b < 8; b++) {
                    if ((set >> a & 1) == 1 && (set >> b & 1) == 1 && length(a, b) >= 0) {
                        pairs.add(new int[] {length(a, b), a, b});
                    }
                }
            }
            pairs.sort(Comparator.comparingInt((int[] p) -> p[0]).thenComparingInt(p -> p[1]).thenComparingInt(p -> p[2]));
            boolean[][] joined = new boolean[8][8];
            List<Integer> wires = new ArrayList<>();
            int greatest = 0;
            for (int[] p : pairs) {
                if (!reaches(joined, p[1], p[2], 0)) {
                    joined[p[1]][p[2]] = true;
                    joined[p[2]][p[1]] = true;
                    wires.add(8 * p[1] + p[2]);
                    greatest = Math.max(greatest, p[0]);
                }
            }
            return i == -1 ? wires.size() : i == -2 ? greatest : i < wires.size() ? wires.get(i) : -1;
        }

        static boolean reaches(boolean[][] joined, int a, int b, int seen) {
            if (a == b) {
                return true;
            }
            for (int c = 0; c < 8; c++) {
                if (joined[a][c] && (seen >> c & 1) == 0 && reaches(joined, c, b, seen | 1 << a)) {
                    return true;
                }
            }
            return false;
        }

        int within(int place, int most) {
            if (out(place, 0, 7) || out(most, 0, 9999)) {
                return -2;
            }
            int n = 0;
            for (int p = 0; p < 8; p++) {
                n += !out(length(place, p), 0, most) ? 1 : 0;
            }
            return n;
        }

        int told(int a, int i, int b, int k) {
            if (out(a, 0, 7) || out(b, 0, 7) || out(i, 0, rolls()) || out(k, i, rolls())) {
                return -2;
            }
            long square = straight(sides, laid(i, k), places[a], places[b]);
            return square < 0 ? -3 : (int) square;
        }

        // Goes by fractions over the plane: to the first of the edges ahead, again and again.
        int snail(int right, int up, int k, int what) {
            if (out(right, -9, 9) || out(up, -9, 9) || right == 0 && up == 0 || out(k, 0, 30) || out(what, 0, 1)) {
                return -2;
            }
            Map2 m = flat(0);
            int roll = 0;
            for (int n = 0; n < k; n++) {
                long[] b = bounds(m);
                BigInteger[] toX = time(right > 0 ? b[2] : b[0], sides[0], right);
                BigInteger[] toY = time(up > 0 ? b[3] : b[1], sides[1], up);
                int c = toX == null ? 1 : toY == null ? -1
                    : toX[0].multiply(toY[1]).compareTo(toY[0].multiply(toX[1]));
                if (c == 0) {
                    return -1;
                }
                roll = c < 0 ? right > 0 ? 1 : 2 : up > 0 ? 3 : 4;
                m = unfold(sides, m, ahead(m, "?ewns".charAt(roll)));
            }
            return what == 0 ? m.wall : roll;
        }

        static BigInteger[] time(long edge, int side, int speed) {
            if (speed == 0) {
                return null;
            }
            long sign = speed > 0 ? 1 : -1;
            return new BigInteger[] {BigInteger.valueOf(sign * (2 * edge - side)), BigInteger.valueOf(sign * 2 * speed)};
        }

        int thread(int a, int b, int length, int what) {
            if (out(a, 0, 7) || out(b, 0, 7) || out(length, 0, 9999) || out(what, 0, 1)) {
                return -2;
            }
            List<Integer> highs = new ArrayList<>();
            for (int high = 1; high <= 30; high++) {
                int[] s = {sides[0], sides[1], high};
                if (holds(s, places[a]) && holds(s, places[b])) {
                    List<Way> w = best(s, places[a], places[b]);
                    if (!w.isEmpty() && w.get(0).square == length) {
                        highs.add(high);
                    }
                }
            }
            return what == 0 ? highs.size() : highs.isEmpty() ? -1 : highs.get(0);
        }

        int flies(int place, int seed, int n, int most) {
            if (out(place, 0, 7) || out(n, 0, 99) || out(most, 0, 9999)) {
                return -2;
            }
            long state = seed;
            int near = 0;
            for (int i = 0; i < n; i++) {
                state = (state * 1103515245L + 12345L) & 0xffffffffL;
                near += !out(length(place, (int) (state >> 16) % 8), 0, most) ? 1 : 0;
            }
            return near;
        }

        int sheet(int s, int form, int n) {
            if (out(s, 0, 3) || out(form, 0, 2) || n > 60) {
                return -2;
            }
            if (n < 0) {
                return finds(5);
            }
            sheets[s] = form == 0 ? new byte[n] : form == 1 ? new short[n] : new int[n];
            return n;
        }

        int lose(int s) {
            if (out(s, 0, 3)) {
                return -2;
            }
            if (sheets[s] == null) {
                return finds(1);
            }
            int had = size(sheets[s]);
            sheets[s] = null;
            return had;
        }

        int use(int s, int form, int i) {
            if (out(s, 0, 3) || out(form, 0, 2)) {
                return -2;
            }
            if (sheets[s] == null) {
                return finds(1);
            }
            if (form(sheets[s]) != form) {
                return finds(3);
            }
            return out(i, 0, size(sheets[s]) - 1) ? finds(2) : 1;
        }

        int lay(int s, int form, int i, int v) {
            int use = use(s, form, i);
            if (use == 1) {
                store(sheets[s], i, v);
            }
            return use;
        }

        int get(int s, int form, int i) {
            return use(s, form, i) == 1 ? item(sheets[s], i) : Integer.MIN_VALUE;
        }

        int copy(int s, int i, int t, int j, int n) {
            if (out(s, 0, 3) || out(t, 0, 3)) {
                return -2;
            }
            // The Java machine is asked what it finds.
            try {
                System.arraycopy(sheets[s], i, sheets[t], j, n);
                return 1;
            } catch (NullPointerException e) {
                return finds(1);
            } catch (ArrayStoreException e) {
                return finds(4);
            } catch (IndexOutOfBoundsException e) {
                return finds(2);
            }
        }

        int write(int place, int s) {
            if (out(place, 0, 7) || out(s, 0, 3)) {
                return -2;
            }
            if (sheets[s] == null) {
                return finds(1);
            }
            int n = Math.min(8, size(sheets[s]));
            for (int p = 0; p < n; p++) {
                store(sheets[s], p, length(place, p));
            }
            return n;
        }

        int count(int what) {
            Set<String> unlike = new HashSet<>();
            for (int[] p : places) {
                unlike.add(Arrays.toString(p));
            }
            int[] all = {rolls(), text.size(), sides[0], sides[1], sides[2], bars.size(), unlike.size(),
                laid(rolls(), rolls()).get(0).wall, finding};
            return out(what, 0, 8) ? -2 : all[what];
        }

        long digest() {
            List<Long> all = new ArrayList<>();
            for (int what = 0; what <= 7; what++) {
                all.add((long) count(what));
            }
            all.add((long) fault());
            for (int p = 0; p < 8; p++) {
                int q = (p + 1) % 8;
                int[] of = {at(p, 0), at(p, 1), at(p, 2), at(p, 3), shortest(p, q), ways(p, q), face(p, q, 0),
                    face(p, q, 1), face(p, q, 2), farthest(p), within(p, 200), lies(p, 0, 0)};
                for (int v : of) {
                    all.add((long) v);
                }
            }
            int k = rolls();
            int[] rest = {laidOut(k, 0), laidOut(k, 1), laidOut(k, 2), laidOut(k, 3), laidOut(k, 4), sit(), nearer(0, 1),
                wires(255, -1), wires(255, -2), wires(255, 0), told(0, 0, 1, k), snail(2, 1, 5, 0), snail(3, -2, 8, 1),
                thread(0, 1, 100, 0), flies(0, 7, 20, 300)};
            for (int v : rest) {
                all.add((long) v);
            }
            long h = 17;
            for (long v : all) {
                h = 31 * h + v;
            }
            return h;
        }
    }
}
