// Sheets, findings, refusals and the digest, at each bound that the document names.
public final class SheetsBoundariesTest {
    private static final Sentences DOC = new Sentences();
    private static final int LEAST = Boxes.LEAST, GREATEST = Boxes.GREATEST;

    public static void main(String[] args) throws Exception {
        lostAtFirst();
        zeroToSixty();
        findings();
        findingsChangeOnlyOne();
        sheetCall();
        loseCall();
        layCall();
        getCall();
        copyCall();
        copyAsTheyWere();
        copyIndex();
        writeCall();
        writeAsMany();
        firstThatFits();
        changeNothing();
        lessTenThousand();
        digest();
        digestOfPlaces();
        digestOfTheRest();
        DOC.finish(args);
    }

    private static void items(String what, BoxSpider b, int s, int form, int... want) {
        for (int i = 0; i < want.length; i++) {
            DOC.due(what + ": item " + i, b.get(s, form, i), want[i]);
        }
        DOC.due(what + ": behind the last", b.lay(s, form, want.length, 0), Boxes.INDEX);
    }

    // ---- sheets

    private static void lostAtFirst() {
        DOC.of("SHEETS 0 .. 3 are LOST (at first) or a row of a FORM: 0 bytes, 1 shorts, 2 ints");
        BoxSpider b = new BoxSpider();
        for (int s = 0; s < 4; s++) {
            DOC.due("sheet " + s + " is lost", b.lay(s, 0, 0, 0), Boxes.NULL);
            DOC.due("sheet " + s + " is lost", b.lose(s), Boxes.NULL);
            DOC.due("sheet " + s + " is lost", b.write(0, s), Boxes.NULL);
            DOC.due("sheet " + s + " is lost", b.read(s), Boxes.NULL);
            DOC.due("sheet " + s + " is lost", b.copy(s, 0, s, 0, 0), Boxes.NULL);
            DOC.due("sheet " + s + " is lost", b.get(s, 0, 0), LEAST);
        }
        for (int s = 0; s < 4; s++) {
            b.sheet(s, 2, s + 1);
            DOC.due("its own", b.lay(s, 2, s, s + 10), 1);
        }
        for (int s = 0; s < 4; s++) {
            DOC.due("not another's", b.get(s, 2, s), s + 10);
        }
    }

    private static void zeroToSixty() {
        DOC.of("of 0 to 60 items (0 at first).");
        for (int form = 0; form < 3; form++) {
            BoxSpider b = new BoxSpider();
            DOC.due("no items", b.sheet(0, form, 0), 0);
            DOC.due("none at all", b.lay(0, form, 0, 1), Boxes.INDEX);
            DOC.due("sixty items", b.sheet(0, form, 60), 60);
            for (int i = 0; i < 60; i++) {
                DOC.due("0 at first", b.get(0, form, i), 0);
                DOC.due("laid", b.lay(0, form, i, i + 1), 1);
            }
            for (int i = 0; i < 60; i++) {
                DOC.due("as laid", b.get(0, form, i), i + 1);
            }
            DOC.due("no 61st", b.lay(0, form, 60, 1), Boxes.INDEX);
            b.sheet(0, form, 60);
            for (int i = 0; i < 60; i++) {
                DOC.due("0 anew", b.get(0, form, i), 0);
            }
            b.lay(0, form, 3, 9);
            b.lose(0);
            b.sheet(0, form, 4);
            DOC.due("0 behind a loss", b.get(0, form, 3), 0);
        }
    }

    private static void findings() {
        DOC.of("1 NULL: the SHEET is LOST; 2 INDEX: there is no such item; 3 CAST: it has another FORM; "
            + "4 STORE: unlike FORMS; 5 SIZE: below 0.");
        BoxSpider b = new BoxSpider();
        b.sheet(1, 1, 2);
        b.sheet(2, 2, 2);
        DOC.due("NULL", b.lay(0, 0, 0, 0), -10 - 1);
        DOC.due("NULL told", b.count(8), 1);
        DOC.due("INDEX", b.lay(1, 1, 2, 0), -10 - 2);
        DOC.due("INDEX told", b.count(8), 2);
        DOC.due("CAST", b.lay(1, 2, 0, 0), -10 - 3);
        DOC.due("CAST told", b.count(8), 3);
        DOC.due("STORE", b.copy(1, 0, 2, 0, 1), -10 - 4);
        DOC.due("STORE told", b.count(8), 4);
        DOC.due("SIZE", b.sheet(1, 1, -1), -10 - 5);
        DOC.due("SIZE told", b.count(8), 5);
        for (int form = 0; form < 3; form++) {
            for (int other = 0; other < 3; other++) {
                b.sheet(0, form, 1);
                b.sheet(3, other, 1);
                DOC.due("another form", b.lay(0, other, 0, 1), form == other ? 1 : Boxes.CAST);
                DOC.due("unlike forms", b.copy(0, 0, 3, 0, 1), form == other ? 1 : Boxes.STORE);
            }
        }
    }

    private static void findingsChangeOnlyOne() {
        DOC.of("FINDINGS (answers -10 less the number; they change nothing but count() 8)");
        int[] number = {1, 1, 1, 1, 1, 1, 5, 3, 2, 3, 2, 4, 2, 2};
        for (int which = 0; which < number.length; which++) {
            BoxSpider b = used();
            String before = state(b);
            int got = finding(b, which);
            DOC.due("finding " + which, got, which == 9 || which == 10 || which == 5 ? LEAST : -10 - number[which]);
            DOC.due("told " + which, b.count(8), number[which]);
            DOC.so("nothing else changes by " + which, state(b).equals(before));
        }
    }

    private static int finding(BoxSpider b, int which) {
        switch (which) {
            case 0: return b.read(3);
            case 1: return b.lose(3);
            case 2: return b.lay(3, 0, 0, 9);
            case 3: return b.copy(3, 0, 0, 0, 1);
            case 4: return b.copy(0, 0, 3, 0, 1);
            case 5: return b.get(3, 0, 0);
            case 6: return b.sheet(0, 0, -1);
            case 7: return b.lay(0, 1, 0, 9);
            case 8: return b.lay(0, 0, 5, 9);
            case 9: return b.get(0, 1, 0);
            case 10: return b.get(0, 0, 5);
            case 11: return b.copy(0, 0, 1, 0, 1);
            case 12: return b.copy(0, 0, 0, 4, 2);
            default: return b.copy(0, -1, 0, 0, 1);
        }
    }

    /** A box on which all that a call may change is as nowhere at first; sheet 3 is lost. */
    private static BoxSpider used() {
        BoxSpider b = Boxes.of(7, 9, 11);
        Boxes.type(b, "enwse");
        for (int place = 0; place < 8; place++) {
            b.place(place, place % 2 * 7, place, place + 2);
        }
        b.bar(0, 2, 1);
        b.bar(3, 5, 1);
        for (int form = 0; form < 3; form++) {
            Boxes.fill(b, form, form, 7, 1, 2, 0, 8 - form);
        }
        return b;
    }

    /** What such a box tells of itself, but for count() 8. */
    private static String state(BoxSpider b) {
        StringBuilder s = new StringBuilder().append(b.digest());
        for (int what = 0; what < 8; what++) {
            s.append(' ').append(b.count(what));
        }
        for (int form = 0; form < 3; form++) {
            for (int i = 0; i < 5; i++) {
                s.append(' ').append(b.get(form, form, i));
            }
        }
        for (int k = 0; k <= 5; k++) {
            s.append(' ').append(b.laidOut(k, 0));
        }
        return s.toString();
    }

    private static void sheetCall() {
        DOC.of("A SHEET is a new row of a FORM with n items: n. BAD: SHEET, FORM, above 60; SIZE.");
        BoxSpider b = new BoxSpider();
        for (int n = 0; n <= 60; n++) {
            DOC.due("items", b.sheet(n % 4, n % 3, n), n);
        }
        int[] above = {61, 62, 1000, GREATEST};
        for (int n : above) {
            DOC.due("above 60", b.sheet(0, 0, n), -2);
        }
        for (int none : Boxes.outside(0, 3)) {
            DOC.due("sheet " + none, b.sheet(none, 0, 5), -2);
            DOC.due("the sheet goes ahead of SIZE", b.sheet(none, 0, -1), -2);
        }
        for (int none : Boxes.outside(0, 2)) {
            DOC.due("form " + none, b.sheet(0, none, 5), -2);
            DOC.due("the form goes ahead of SIZE", b.sheet(0, none, -1), -2);
        }
        DOC.due("no finding yet", b.count(8), 0);
        int[] below = {-1, -2, -61, LEAST};
        for (int n : below) {
            DOC.due("below 0", b.sheet(3, 2, n), Boxes.SIZE);
        }
        DOC.due("SIZE", b.count(8), 5);
        b.sheet(3, 2, 5);
        b.lay(3, 2, 4, 77);
        DOC.due("refused by SIZE", b.sheet(3, 0, -1), Boxes.SIZE);
        DOC.due("refused by its form", b.sheet(3, 3, 5), -2);
        DOC.due("refused by 61", b.sheet(3, 0, 61), -2);
        items("as it was", b, 3, 2, 0, 0, 0, 0, 77);
    }

    private static void loseCall() {
        DOC.of("It is LOST: how many items it had. BAD; NULL.");
        BoxSpider b = new BoxSpider();
        int[] sizes = {0, 1, 59, 60};
        for (int s = 0; s < 4; s++) {
            b.sheet(s, s % 3, sizes[s]);
        }
        for (int s = 0; s < 4; s++) {
            DOC.due("items that it had", b.lose(s), sizes[s]);
            DOC.due("lost already", b.lose(s), Boxes.NULL);
        }
        for (int none : Boxes.outside(0, 3)) {
            DOC.due("sheet " + none, b.lose(none), -2);
        }
        DOC.due("a new one", b.sheet(2, 0, 3), 3);
        DOC.due("can be lost again", b.lose(2), 3);
    }

    private static void layCall() {
        DOC.of("Item i, treated as of a FORM, becomes v (the lowest bits that it has): 1. BAD; NULL; CAST; INDEX.");
        int[] values = {127, 128, 255, 256, -128, -129, 32767, 32768, 65535, 65536, -32768, -32769, LEAST, GREATEST};
        int[][] kept = {
            {127, -128, -1, 0, -128, 127, -1, 0, -1, 0, 0, -1, 0, -1},
            {127, 128, 255, 256, -128, -129, 32767, -32768, -1, 0, -32768, 32767, 0, -1},
            values};
        for (int form = 0; form < 3; form++) {
            BoxSpider b = new BoxSpider();
            b.sheet(0, form, 3);
            for (int i = 0; i < values.length; i++) {
                DOC.due("laid", b.lay(0, form, 1, values[i]), 1);
                DOC.due("the lowest bits of " + values[i], b.get(0, form, 1), kept[form][i]);
            }
            items("the others", b, 0, form, 0, kept[form][13], 0);
        }
        BoxSpider b = new BoxSpider();
        for (int none : Boxes.outside(0, 3)) {
            DOC.due("sheet " + none, b.lay(none, 0, 0, 0), -2);
        }
        for (int none : Boxes.outside(0, 2)) {
            DOC.due("form " + none + ", ahead of NULL", b.lay(0, none, 0, 0), -2);
        }
        DOC.due("NULL ahead of INDEX", b.lay(0, 0, -1, 0), Boxes.NULL);
        b.sheet(0, 1, 3);
        for (int i : Boxes.outside(0, 2)) {
            DOC.due("item " + i, b.lay(0, 1, i, 5), Boxes.INDEX);
            DOC.due("CAST ahead of INDEX", b.lay(0, 2, i, 5), Boxes.CAST);
            DOC.due("BAD ahead of INDEX", b.lay(0, 3, i, 5), -2);
        }
        DOC.due("the first item", b.lay(0, 1, 0, 5), 1);
        DOC.due("the last item", b.lay(0, 1, 2, 6), 1);
        items("laid", b, 0, 1, 5, 0, 6);
    }

    private static void getCall() {
        DOC.of("Item i of it. BAD: the least int; so are NULL, CAST, INDEX (count() 8 tells).");
        BoxSpider b = new BoxSpider();
        for (int none : Boxes.outside(0, 3)) {
            DOC.due("sheet " + none, b.get(none, 0, 0), LEAST);
        }
        for (int none : Boxes.outside(0, 2)) {
            DOC.due("form " + none, b.get(0, none, 0), LEAST);
        }
        DOC.due("BAD is no finding", b.count(8), 0);
        DOC.due("lost", b.get(0, 0, -1), LEAST);
        DOC.due("NULL tells", b.count(8), 1);
        Boxes.fill(b, 0, 2, 5, LEAST, 7);
        DOC.due("the first item", b.get(0, 2, 0), 5);
        DOC.due("the least int itself", b.get(0, 2, 1), LEAST);
        DOC.due("the last item", b.get(0, 2, 2), 7);
        DOC.due("no new finding", b.count(8), 1);
        for (int i : Boxes.outside(0, 2)) {
            DOC.due("CAST", b.get(0, 1, i), LEAST);
            DOC.due("CAST tells, ahead of INDEX", b.count(8), 3);
            DOC.due("BAD", b.get(0, 3, i), LEAST);
            DOC.due("BAD tells nothing", b.count(8), 3);
            DOC.due("INDEX", b.get(0, 2, i), LEAST);
            DOC.due("INDEX tells", b.count(8), 2);
        }
    }

    private static void copyCall() {
        DOC.of("BAD: the SHEETS; NULL: s, t; STORE; INDEX: below 0, not so many.");
        BoxSpider b = new BoxSpider();
        Boxes.fill(b, 0, 1, 1, 2, 3);
        b.sheet(1, 2, 3);
        for (int none : Boxes.outside(0, 3)) {
            DOC.due("from sheet " + none, b.copy(none, 0, 0, 0, 1), -2);
            DOC.due("to sheet " + none, b.copy(0, 0, none, 0, 1), -2);
            DOC.due("BAD ahead of NULL", b.copy(3, 0, none, 0, 1), -2);
            DOC.due("BAD ahead of NULL", b.copy(none, 0, 3, 0, 1), -2);
        }
        DOC.due("no finding yet", b.count(8), 0);
        DOC.due("s is lost", b.copy(3, 0, 0, 0, 1), Boxes.NULL);
        DOC.due("t is lost", b.copy(0, 0, 3, 0, 1), Boxes.NULL);
        DOC.due("both are lost", b.copy(2, 0, 3, 0, 1), Boxes.NULL);
        DOC.due("s is lost, no items", b.copy(3, 0, 0, 0, 0), Boxes.NULL);
        DOC.due("NULL ahead of INDEX", b.copy(0, -1, 3, 0, 1), Boxes.NULL);
        DOC.due("STORE", b.copy(0, 0, 1, 0, 1), Boxes.STORE);
        DOC.due("STORE of no items", b.copy(0, 0, 1, 0, 0), Boxes.STORE);
        DOC.due("STORE ahead of INDEX", b.copy(0, -1, 1, 0, 1), Boxes.STORE);
        DOC.due("STORE ahead of INDEX", b.copy(0, 0, 1, 0, -1), Boxes.STORE);
        items("as it was", b, 0, 1, 1, 2, 3);
        items("as it was", b, 1, 2, 0, 0, 0);
    }

    private static void copyAsTheyWere() {
        DOC.of("n items of SHEET s, from i on, come to SHEET t (perhaps s, as they were), from j on: 1.");
        BoxSpider b = new BoxSpider();
        Boxes.fill(b, 0, 0, 1, 2, 3, 4, 5);
        b.sheet(1, 0, 3);
        DOC.due("to the end of another", b.copy(0, 3, 1, 1, 2), 1);
        items("copied", b, 1, 0, 0, 4, 5);
        items("still there", b, 0, 0, 1, 2, 3, 4, 5);
        DOC.due("up by one", b.copy(0, 0, 0, 1, 4), 1);
        items("as they were", b, 0, 0, 1, 1, 2, 3, 4);
        Boxes.fill(b, 0, 0, 1, 2, 3, 4, 5);
        DOC.due("down by one", b.copy(0, 1, 0, 0, 4), 1);
        items("as they were", b, 0, 0, 2, 3, 4, 5, 5);
        DOC.due("onto itself", b.copy(0, 0, 0, 0, 5), 1);
        items("as they were", b, 0, 0, 2, 3, 4, 5, 5);
        DOC.due("all of sixty", b.sheet(2, 2, 60) + b.sheet(3, 2, 60), 120);
        b.lay(2, 2, 0, 8);
        b.lay(2, 2, 59, 9);
        DOC.due("all of sixty", b.copy(2, 0, 3, 0, 60), 1);
        DOC.due("the first", b.get(3, 2, 0), 8);
        DOC.due("the last", b.get(3, 2, 59), 9);
    }

    private static void copyIndex() {
        DOC.of("INDEX: below 0, not so many.");
        BoxSpider b = new BoxSpider();
        Boxes.fill(b, 0, 1, 1, 2, 3, 4, 5);
        Boxes.fill(b, 1, 1, 6, 7, 8);
        int[][] fine = {{5, 0, 0}, {0, 3, 0}, {5, 3, 0}, {4, 2, 1}, {2, 0, 3}};
        int[][] wrong = {{-1, 0, 1}, {0, -1, 1}, {0, 0, -1}, {-1, 0, 0}, {0, -1, 0}, {6, 0, 0}, {0, 4, 0}, {5, 0, 1},
            {0, 3, 1}, {4, 0, 2}, {0, 2, 2}, {3, 0, 3}, {0, 1, 3}, {0, 0, 4}, {0, 0, 6}, {LEAST, 0, 1}, {0, LEAST, 1},
            {0, 0, LEAST}, {GREATEST, 0, 1}, {0, GREATEST, 1}, {0, 0, GREATEST}, {1, 1, GREATEST},
            {GREATEST, GREATEST, GREATEST}, {LEAST, LEAST, LEAST}, {5, 0, LEAST}};
        for (int[] c : wrong) {
            DOC.due("copy of " + c[2] + " from " + c[0] + " to " + c[1], b.copy(0, c[0], 1, c[1], c[2]), Boxes.INDEX);
        }
        items("as it was", b, 0, 1, 1, 2, 3, 4, 5);
        items("as it was", b, 1, 1, 6, 7, 8);
        for (int[] c : fine) {
            DOC.due("copy of " + c[2] + " from " + c[0] + " to " + c[1], b.copy(0, c[0], 1, c[1], c[2]), 1);
        }
        items("copied at last", b, 1, 1, 3, 4, 5);
        b.sheet(0, 1, 0);
        DOC.due("none of none", b.copy(0, 0, 0, 0, 0), 1);
        DOC.due("one of none", b.copy(0, 0, 0, 0, 1), Boxes.INDEX);
    }

    private static void writeCall() {
        DOC.of("as many as there are items, eight at most: how many. BAD; NULL.");
        BoxSpider b = new BoxSpider();
        for (int none : Boxes.outside(0, 7)) {
            DOC.due("place " + none + ", ahead of NULL", b.write(none, 0), -2);
        }
        for (int none : Boxes.outside(0, 3)) {
            DOC.due("sheet " + none, b.write(0, none), -2);
        }
        DOC.due("no finding yet", b.count(8), 0);
        DOC.due("lost", b.write(7, 3), Boxes.NULL);
        DOC.due("NULL", b.count(8), 1);
        for (int n = 0; n <= 60; n++) {
            b.sheet(n % 4, n % 3, n);
            DOC.due("to " + n + " items", b.write(n % 8, n % 4), Math.min(n, 8));
        }
    }

    private static void writeAsMany() {
        DOC.of("SHORTEST of a PLACE to PLACES 0 on (NONE) comes to a SHEET from item 0 on");
        BoxSpider b = new BoxSpider();
        for (int place = 0; place < 7; place++) {
            b.place(place, 0, 0, 5 * place - (place == 6 ? 1 : 0));
        }
        b.place(7, 6, 6, 30);
        Boxes.shut(b, 1);
        Boxes.fill(b, 0, 2, 9, 9, 9, 9, 9, 9, 9, 9, 9, 9);
        DOC.due("eight of ten", b.write(0, 0), 8);
        items("written", b, 0, 2, 0, 25, 100, 225, 400, 625, 841, -1, 9, 9);
        Boxes.fill(b, 1, 1, 9, 9, 9);
        DOC.due("all three shorts", b.write(7, 1), 3);
        items("none has a way", b, 1, 1, -1, -1, -1);
        // A byte holds the lowest bits alone, as of what is laid.
        b.sheet(2, 0, 8);
        DOC.due("eight bytes", b.write(0, 2), 8);
        items("written", b, 2, 0, 0, 25, 100, (byte) 225, (byte) 400, (byte) 625, (byte) 841, -1);
    }

    // ---- refusals

    private static void firstThatFits() {
        DOC.of("Refusals, the first that fits, in the order told at each act: BAD -2 (a number not as told, no such thing), "
            + "NULL, NOT -3 (as told), FULL -4, other FINDINGS.");
        BoxSpider b = used();
        for (int n = 6; n <= 40; n++) {
            b.type('e');
        }
        DOC.due("BAD ahead of FULL", b.type(256), -2);
        DOC.due("FULL", b.type('e'), -4);
        DOC.due("BAD ahead of NULL", b.write(8, 3), -2);
        DOC.due("BAD ahead of NULL", b.lay(3, 3, 0, 0), -2);
        DOC.due("BAD ahead of NULL", b.copy(3, 0, 4, 0, 0), -2);
        DOC.due("NULL ahead of STORE", b.copy(3, 0, 0, 0, 0), Boxes.NULL);
        DOC.due("NULL ahead of INDEX", b.lay(3, 0, 99, 0), Boxes.NULL);
        DOC.due("CAST ahead of INDEX", b.lay(0, 1, 99, 0), Boxes.CAST);
        DOC.due("STORE ahead of INDEX", b.copy(0, 99, 1, 0, 1), Boxes.STORE);
        DOC.due("BAD ahead of SIZE", b.sheet(0, 3, -1), -2);
        DOC.due("BAD ahead of NOT", b.told(1, 0, 8, 0), -2);
        DOC.due("BAD ahead of NOT", b.lies(1, 0, 2), Boxes.ANY_BAD);
        DOC.due("the finding is the last one", b.count(8), 4);
    }

    private static void changeNothing() {
        DOC.of("They change nothing (FINDINGS but count() 8).");
        for (int which = 0; which < 48; which++) {
            BoxSpider b = used();
            String before = state(b);
            long got = refused(b, which);
            boolean any = which == 24 || which == 25 || which == 26 || which == 27;
            DOC.due("refusal " + which, got, any ? Boxes.ANY_BAD : which == 23 ? LEAST : which == 28 ? -10003
                : which == 29 ? -3 : -2);
            DOC.so("nothing changes by " + which, state(b).equals(before));
            DOC.due("no finding by " + which, b.count(8), 0);
        }
        BoxSpider b = new BoxSpider();
        DOC.due("NOT", b.undo(), -3);
        DOC.due("nothing", b.count(1), 0);
        for (int n = 0; n < 41; n++) {
            b.type('?');
        }
        DOC.due("FULL, nothing", b.count(1), 40);
    }

    private static long refused(BoxSpider b, int which) {
        switch (which) {
            case 0: return b.side(3, 5);
            case 1: return b.side(-1, 5);
            case 2: return b.side(0, 0);
            case 3: return b.side(2, 31);
            case 4: return b.place(8, 0, 0, 0);
            case 5: return b.place(-1, 0, 0, 0);
            case 6: return b.place(0, 1, 1, 1);
            case 7: return b.place(0, 8, 0, 0);
            case 8: return b.at(8, 0);
            case 9: return b.read(4);
            case 10: return b.type(256);
            case 11: return b.type(-1);
            case 12: return b.bar(0, 1, 1);
            case 13: return b.bar(2, 2, 1);
            case 14: return b.bar(0, 4, 2);
            case 15: return b.bar(0, 2, -1);
            case 16: return b.bar(6, 0, 1);
            case 17: return b.sheet(4, 0, 1);
            case 18: return b.sheet(0, 3, 1);
            case 19: return b.sheet(0, 0, 61);
            case 20: return b.lose(4);
            case 21: return b.lay(4, 0, 0, 1);
            case 22: return b.lay(0, 3, 0, 1);
            case 23: return b.get(0, 3, 0);
            case 24: return b.laidOut(6, 0);
            case 25: return b.laidOut(0, 5);
            case 26: return b.lies(0, 6, 0);
            case 27: return b.lies(8, 0, 0);
            case 28: return b.lies(0, 0, 0);
            case 29: return b.told(0, 0, 0, 0);
            case 30: return b.told(0, 2, 0, 1);
            case 31: return b.copy(4, 0, 0, 0, 1);
            case 32: return b.copy(0, 0, 4, 0, 1);
            default: return refusedToAnswer(b, which);
        }
    }

    private static long refusedToAnswer(BoxSpider b, int which) {
        switch (which) {
            case 33: return b.write(8, 0);
            case 34: return b.write(0, 4);
            case 35: return b.shortest(0, 8);
            case 36: return b.ways(8, 0);
            case 37: return b.face(0, 1, 5);
            case 38: return b.farthest(8);
            case 39: return b.nearer(1, 1);
            case 40: return b.wires(256, -1);
            case 41: return b.wires(255, -3);
            case 42: return b.within(0, 10000);
            case 43: return b.snail(0, 0, 1, 0);
            case 44: return b.snail(1, 0, 31, 0);
            case 45: return b.thread(0, 1, 10000, 0);
            case 46: return b.flies(0, 0, 100, 5);
            default: return b.count(9);
        }
    }

    private static void lessTenThousand() {
        DOC.of("Where any number is told, it is -10000 less x.");
        BoxSpider b = new BoxSpider();
        b.place(1, 6, 6, 30);
        DOC.due("BAD where it is laid", b.laidOut(1, 0), -10000 + BoxSpider.BAD);
        DOC.due("BAD where it lies", b.lies(8, 0, 0), -10000 + BoxSpider.BAD);
        DOC.due("NOT where it lies", b.lies(1, 0, 0), -10000 + BoxSpider.NOT);
    }

    // ---- digest

    private static void digest() {
        DOC.of("h is 17; h becomes 31 h and each of: count() 0 to 7; fault()");
        DOC.due("of a new object", new BoxSpider().digest(), Boxes.digestOf(new BoxSpider()));
        DOC.due("of a used one", used().digest(), Boxes.digestOf(used()));
        BoxSpider b = used();
        long before = b.digest();
        b.lose(3);
        DOC.due("a finding is no part of it", b.digest(), before);
        b.type('?');
        DOC.due("with a fault", b.digest(), Boxes.digestOf(b));
        DOC.so("a fault changes it", b.digest() != before);
        b.undo();
        DOC.due("an undone fault does not", b.digest(), before);
    }

    private static void digestOfPlaces() {
        DOC.of("of PLACES at() 0 to 3, shortest(), ways(), face() 0 to 2 with the next (of 7 with 0), farthest(), "
            + "within(it, 200), lies(it, 0, 0) (as it is told)");
        for (int place = 0; place < 8; place++) {
            BoxSpider b = used();
            long before = b.digest();
            b.place(place, 3, 4, 11);
            DOC.so("place " + place + " changes it", b.digest() != before);
            DOC.due("place " + place + " moved", b.digest(), Boxes.digestOf(b));
            // Just within 200 of the corner, and with an x that is not its y.
            b = new BoxSpider();
            b.place(place, 2, 12, 0);
            b.place((place + 1) % 8, 10, 10, 0);
            DOC.due("place " + place + " on the floor", b.digest(), Boxes.digestOf(b));
        }
        BoxSpider b = Boxes.of(1, 1, 1);
        b.place(7, 1, 1, 1);
        Boxes.openOnly(b);
        DOC.due("without ways", b.digest(), Boxes.digestOf(b));
    }

    private static void digestOfTheRest() {
        DOC.of("laidOut() behind all ROLLS 0 to 4, sit(), nearer(0, 1), wires(255, NONE, -2 and 0), "
            + "told(0, 0, 1, all ROLLS) (as it is told), snail(2, 1, 5, 0), snail(3, -2, 8, 1), thread(0, 1, 100, 0), "
            + "flies(0, 7, 20, 300); as longs that wrap.");
        for (int n = 0; n <= 21; n++) {
            BoxSpider b = Boxes.of(4, 4, 4);
            b.place(0, 2, 2, 0);
            b.place(1, 4, 2, 2);
            for (int roll = 0; roll < n; roll++) {
                b.type("esw".charAt(roll % 3));
            }
            DOC.due("a told way behind " + n, b.told(0, 0, 1, b.count(0)), n == 1 ? 16 : -3);
            DOC.due("digest with " + n + " letters", b.digest(), Boxes.digestOf(b));
        }
        BoxSpider b = Boxes.of(30, 30, 30);
        DOC.due("the greatest box", b.digest(), Boxes.digestOf(b));
        b.place(1, 10, 0, 0);
        DOC.due("a thread of 100", b.thread(0, 1, 100, 0), 30);
        DOC.due("its digest", b.digest(), Boxes.digestOf(b));
        b = Boxes.of(30, 30, 30);
        b.place(1, 30, 30, 30);
        DOC.so("flies near to 0 are not near to 1", b.flies(0, 7, 20, 300) != b.flies(1, 7, 20, 300));
        DOC.due("its digest", b.digest(), Boxes.digestOf(b));
    }
}
