/** What several tests do with a box. */
final class Boxes {
    static final int LEAST = Integer.MIN_VALUE, GREATEST = Integer.MAX_VALUE;
    static final int ANY_BAD = -10002, ANY_NOT = -10003;
    static final int NULL = -11, INDEX = -12, CAST = -13, STORE = -14, SIZE = -15;

    static BoxSpider of(int length, int width, int height) {
        BoxSpider b = new BoxSpider();
        b.side(0, length);
        b.side(1, width);
        b.side(2, height);
        return b;
    }

    static void type(BoxSpider b, String text) {
        for (int i = 0; i < text.length(); i++) {
            b.type(text.charAt(i));
        }
    }

    /** All edges are barred but these, each told by its two walls, as 10 a + b. */
    static void openOnly(BoxSpider b, int... edges) {
        for (int wall = 0; wall < 6; wall++) {
            shut(b, wall);
        }
        for (int edge : edges) {
            b.bar(edge / 10, edge % 10, 0);
        }
    }

    /** All edges of a wall are barred. */
    static void shut(BoxSpider b, int wall) {
        for (int other = 0; other < 6; other++) {
            b.bar(wall, other, 1);
        }
    }

    static void fill(BoxSpider b, int s, int form, int... items) {
        b.sheet(s, form, items.length);
        for (int i = 0; i < items.length; i++) {
            b.lay(s, form, i, items[i]);
        }
    }

    /** Numbers that are not from least to greatest: those beside them, and the farthest. */
    static int[] outside(int least, int greatest) {
        return new int[] {least - 1, greatest + 1, least - 100, greatest + 100, LEAST, GREATEST};
    }

    /** The digest, put together from the other calls: some 120 of them. */
    static long digestOf(BoxSpider b) {
        int[] parts = new int[9 + 8 * 12 + 15];
        int n = 0;
        for (int what = 0; what < 8; what++) {
            parts[n++] = b.count(what);
        }
        parts[n++] = b.fault();
        for (int p = 0; p < 8; p++) {
            int next = p == 7 ? 0 : p + 1;
            int[] of = {b.at(p, 0), b.at(p, 1), b.at(p, 2), b.at(p, 3), b.shortest(p, next), b.ways(p, next),
                b.face(p, next, 0), b.face(p, next, 1), b.face(p, next, 2), b.farthest(p), b.within(p, 200),
                b.lies(p, 0, 0)};
            for (int part : of) {
                parts[n++] = part;
            }
        }
        int all = b.count(0);
        int[] rest = {b.laidOut(all, 0), b.laidOut(all, 1), b.laidOut(all, 2), b.laidOut(all, 3), b.laidOut(all, 4),
            b.sit(), b.nearer(0, 1), b.wires(255, -1), b.wires(255, -2), b.wires(255, 0), b.told(0, 0, 1, all),
            b.snail(2, 1, 5, 0), b.snail(3, -2, 8, 1), b.thread(0, 1, 100, 0), b.flies(0, 7, 20, 300)};
        for (int part : rest) {
            parts[n++] = part;
        }
        long h = 17;
        for (int part : parts) {
            h = 31 * h + part;
        }
        return h;
    }

    private Boxes() {
    }
}
