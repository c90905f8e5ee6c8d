/** Promises 25 to 31: sheets, and what is told by them. */
public final class SheetsTest {
    private static final Check check = new Check("SheetsTest");

    public static void main(String[] args) {
        toPlaces();
        toFaults();
        clicksOfLocks();
        clicksOfKinds();
        clicksFaults();
        films();
        newSheets();
        drops();
        items();
        lanes();
        copies();
        overlappingCopies();
        copyFaults();
        check.end();
    }

    private static void due(String call, long got, long want) {
        check.due(call, got, want);
    }

    private static void dueTo(SecretBox x, String of, int... slides) {
        due("25 to(-1) of " + of, x.to(0, 2, 0, -1), slides.length);
        for (int k = 0; k < slides.length; k++) due("25 to(" + k + ") of " + of, x.to(0, 2, 0, k), slides[k]);
        due("25 no more of " + of, x.to(0, 2, 0, slides.length), SecretBox.NONE);
        due("25 far beyond of " + of, x.to(0, 2, 0, Integer.MAX_VALUE), SecretBox.NONE);
    }

    private static void toPlaces() {
        SecretBox x = Check.made("p2,p1;1>02");
        Check.ints(x, 0, 0);
        dueTo(x, "here");
        Check.ints(x, 0, 1);
        dueTo(x, "0, 1", 1, 1, 11, 0, 0);
        Check.ints(x, 2, 1);
        dueTo(x, "2, 1", 1, 1, 11);
        Check.ints(x, 1, 1);
        dueTo(x, "1, 1", 1, 1, 11, 0);
        Check.slides(x, 1);
        dueTo(x, "1, 1 from 1, 0", 1, 11, 0);
        Check.ints(x, 0, 0);
        dueTo(x, "back", 0);
        x.file(0);
        Check.ints(x, 1, 1);
        dueTo(x, "1, 1, filed", 11);

        SecretBox sprung = Check.made("s1,s1");
        Check.ints(sprung, 1, 1);
        due("25 none", sprung.to(0, 2, 0, -1), SecretBox.NONE);
        due("25 none", sprung.to(0, 2, 0, 0), SecretBox.NONE);
        SecretBox like = Check.made("p1,p1,p1");
        Check.ints(like, 1, 0, 1);
        dueTo(like, "of like rows the first", 1, 21);
        SecretBox places = Check.made("p3,p3,p3,p3,p3");
        Check.ints(places, 3, 3, 3, 3, 3);
        due("25 the farthest", places.to(0, 2, 0, -1), 15);
        due("25 its last", places.to(0, 2, 0, 14), 41);
    }

    private static void toFaults() {
        SecretBox x = new SecretBox();
        x.sheet(0, 2, 3);
        due("25 no panels", x.to(0, 2, 0, -1), SecretBox.BAD);
        Check.read(x, "p2,p1");
        due("25 k below", x.to(0, 2, 0, -2), SecretBox.BAD);
        due("25 k below, no row", x.to(1, 2, 0, -2), SecretBox.BAD);
        due("25 sheet below", x.to(-1, 2, 0, -1), SecretBox.BAD);
        due("25 sheet above", x.to(4, 2, 0, -1), SecretBox.BAD);
        due("25 lane below", x.to(0, -1, 0, -1), SecretBox.BAD);
        due("25 lane above", x.to(0, 4, 0, -1), SecretBox.BAD);
        due("25 nothing", x.to(1, 2, 9, -1), SecretBox.NULL);
        due("25 another lane", x.to(0, 1, 9, -1), SecretBox.CAST);
        due("25 i below", x.to(0, 2, -1, -1), SecretBox.INDEX);
        due("25 i above", x.to(0, 2, 2, -1), SecretBox.INDEX);
        due("25 i far above", x.to(0, 2, Integer.MAX_VALUE, -1), SecretBox.INDEX);
        due("25 the last that fits", x.to(0, 2, 1, -1), 0);
        x.item(0, 2, 2, 2);
        due("25 deeper than it is", x.to(0, 2, 1, -1), SecretBox.NOT);
        x.item(0, 2, 2, -1);
        due("25 below 0", x.to(0, 2, 1, 5), SecretBox.NOT);
        due("25 others do not matter", x.to(0, 2, 0, -1), 0);
        x.sheet(3, 3, 2);
        x.item(3, 3, 0, 1L << 32);
        due("25 a long one", x.to(3, 3, 0, -1), SecretBox.NOT);
        x.item(3, 3, 0, 2);
        due("25 longs", x.to(3, 3, 0, -1), 2);
        x.sheet(2, 0, 2);
        x.item(2, 0, 1, 1);
        due("25 bytes", x.to(2, 0, 0, 0), 11);
        x.sheet(2, 1, 2);
        x.item(2, 1, 0, 1);
        due("25 shorts", x.to(2, 1, 0, 0), 1);
    }

    private static int clicks(SecretBox x, int panel, int... pairs) {
        Check.ints(x, pairs);
        return x.clicks(panel, 0, 2, 0, pairs.length / 2);
    }

    private static void clicksOfLocks() {
        SecretBox x = Check.made("p1,p1,p1;0>11,1>21,0<21");
        due("26 as it is", clicks(x, SecretBox.NONE, 1, 0), 64 + 2 + 4);
        due("26 the first is otherwise", clicks(x, SecretBox.NONE, 1, 1), 1);
        due("26 the second is otherwise", clicks(x, SecretBox.NONE, 11, 1, 1, 1), 2);
        due("26 two are otherwise", clicks(x, SecretBox.NONE, 11, 1, 10, 1, 1, 1), 0);
        due("26 no lock matters", clicks(x, SecretBox.NONE, 21, 1, 20, 1), 64 + 7);
        due("26 what could not be is not done", clicks(x, SecretBox.NONE, 1, 0, 1, 0, 21, 1, 11, 1, 1, 1), 64 + 2 + 4);
        due("26 in is locked", clicks(x, SecretBox.NONE, 21, 1, 11, 1, 1, 1, 20, 1, 0, 0), 64 + 1 + 2);
        x.file(0);
        due("26 filed, were it not", clicks(x, SecretBox.NONE, 1, 0), 1);
        due("26 filed", clicks(x, SecretBox.NONE, 1, 1), 64 + 2 + 4);
        x.slide(0, 1);
        due("26 from now on", clicks(x, SecretBox.NONE, 1, 0), 64 + 7);
        due("26 nothing is changed", x.count(7) * 8 + x.count(5), 9);
        due("26 no locks", clicks(Check.made("p1"), SecretBox.NONE, 1, 1, 0, 1), 64);
        due("26 no locks, not so", clicks(Check.made("p1"), SecretBox.NONE, 1, 1, 1, 1), 0);
        due("26 six locks", clicks(Check.made("p1,p1;0>10,0>10,0>10,0>10,0>10,0>11"), SecretBox.NONE, 1, 1), 32);
    }

    private static void clicksOfKinds() {
        SecretBox x = Check.made("p1,s2,p1");
        due("26 any", clicks(x, 0, 1, 1), 31);
        due("26 none", clicks(x, 0, 1, 0), 0);
        due("26 a plain one as a ring, a bolt", clicks(x, 2, 21, 0), 4 + 16);
        due("26 not these", clicks(x, 2, 21, 1), 1 + 2 + 8);
        due("26 a ring may not go in, a sprung one slipped", clicks(x, 2, 11, 1, 21, 1, 1, 1, 20, 0), 2 + 4);
        due("26 it slips, as all but plain", clicks(x, 1, 11, 1, 11, 1, 1, 1, 11, 1), 2);
        due("26 not all out it slips", clicks(x, 1, 11, 1, 21, 1, 10, 0), 2 + 8);
        due("26 all out it stays", clicks(x, 1, 11, 1, 11, 1, 21, 1, 11, 0, 10, 1), 1 + 8);
        due("26 nothing is changed", x.of(1, 0), 1);
        Check.slides(x, 11);
        due("26 from now on", clicks(x, 1, 10, 1), 1 + 2 + 8 + 16);
        due("26 still as it is", x.opens(-1), 1);
        SecretBox lock = Check.made("p1,p1;0>11");
        due("26 locks hold, too", clicks(lock, 0, 1, 1), 0);
        lock.file(0);
        due("26 filed ones don't", clicks(lock, 0, 1, 1), 31);
        due("26 64 is of locks alone", clicks(lock, 1, 1, 1), 31);
    }

    private static void clicksFaults() {
        SecretBox x = Check.made("p1,p2");
        x.sheet(0, 2, 24);
        for (int i = 0; i < 24; i++) x.item(0, 2, i, i % 2 == 0 ? 1 : 0);
        x.item(0, 2, 1, 1);
        due("26 panel below", x.clicks(-1, 0, 2, 0, 1), SecretBox.BAD);
        due("26 panel below", x.clicks(-5, 0, 2, 0, 1), SecretBox.BAD);
        due("26 panel above", x.clicks(2, 0, 2, 0, 1), SecretBox.BAD);
        due("26 sheet below", x.clicks(0, -1, 2, 0, 1), SecretBox.BAD);
        due("26 sheet above", x.clicks(0, 4, 2, 0, 1), SecretBox.BAD);
        due("26 lane below", x.clicks(0, 0, -1, 0, 1), SecretBox.BAD);
        due("26 lane above", x.clicks(0, 0, 4, 0, 1), SecretBox.BAD);
        due("26 n below", x.clicks(0, 0, 2, 0, 0), SecretBox.BAD);
        due("26 n far below", x.clicks(0, 1, 2, 0, Integer.MIN_VALUE), SecretBox.BAD);
        due("26 n above", x.clicks(0, 0, 2, 0, 9), SecretBox.BAD);
        due("26 nothing", x.clicks(0, 1, 2, -1, 1), SecretBox.NULL);
        due("26 another lane", x.clicks(0, 0, 3, -1, 1), SecretBox.CAST);
        due("26 i below", x.clicks(0, 0, 2, -1, 1), SecretBox.INDEX);
        due("26 i above", x.clicks(0, 0, 2, 23, 1), SecretBox.INDEX);
        due("26 i above for eight", x.clicks(0, 0, 2, 9, 8), SecretBox.INDEX);
        due("26 the last that fits", x.clicks(0, 0, 2, 8, 8), 0);
        due("26 the last that fits", x.clicks(SecretBox.NONE, 0, 2, 0, 8), 64);
        due("26 from an odd item", x.clicks(0, 0, 2, 22, 1), 0);
        due("26 no such panel", clicks(x, 0, 1, 1, 20, 0), SecretBox.NOT);
        due("26 no such way", clicks(x, 0, 1, 1, 12, 0), SecretBox.NOT);
        due("26 no such slide", clicks(x, 0, 1, 1, -10, 0), SecretBox.NOT);
        due("26 no such slide", clicks(x, SecretBox.NONE, -1, 0), SecretBox.NOT);
        due("26 neither 0 nor 1", clicks(x, 0, 1, 2), SecretBox.NOT);
        due("26 neither 0 nor 1", clicks(x, 0, 1, -1), SecretBox.NOT);
        due("26 NOT, though not so ahead of it", clicks(x, 0, 1, 0, 1, 2), SecretBox.NOT);
        Check.ints(x, 99, 1, 1, 99, 7);
        due("26 items ahead and behind are no pair's", x.clicks(0, 0, 2, 1, 1), 31);
        due("26 items ahead and behind are no pair's", x.clicks(SecretBox.NONE, 0, 2, 1, 1), 64);
        x.sheet(0, 3, 2);
        x.item(0, 3, 0, (1L << 32) + 1);
        due("26 a long one", x.clicks(0, 0, 3, 0, 1), SecretBox.NOT);
        x.item(0, 3, 0, 1);
        x.item(0, 3, 1, (1L << 32) + 1);
        due("26 a long one", x.clicks(0, 0, 3, 0, 1), SecretBox.NOT);
        SecretBox none = new SecretBox();
        due("26 no panels, nothing", none.clicks(SecretBox.NONE, 0, 2, 0, 1), SecretBox.NULL);
        due("26 no panels", none.clicks(0, 0, 2, 0, 1), SecretBox.BAD);
        due("26 no panels, no slide", clicks(none, SecretBox.NONE, 1, 0), SecretBox.NOT);
    }

    private static void films() {
        SecretBox x = Check.made("p3,p2,p1");
        Check.slides(x, 1, 1, 1, 11, 21);
        x.sheet(0, 0, 5);
        x.sheet(1, 2, 3);
        for (int i = 0; i < 5; i++) x.item(0, 0, i, 9);
        due("27 film", x.film(0, 0, 1), 3);
        // The filmed places lead nowhere: they are where all is.
        due("27 places", x.to(0, 0, 1, -1), 0);
        due("27 the one ahead stays", x.to(0, 0, 0, -1), SecretBox.NOT);
        due("27 the one behind stays", x.to(0, 0, 2, -1), SecretBox.NOT);
        x.undo();
        due("27 as it was then", x.to(0, 0, 1, 0), 21);
        due("27 sheet below", x.film(-1, 0, 0), SecretBox.BAD);
        due("27 sheet above", x.film(4, 0, 0), SecretBox.BAD);
        due("27 lane below", x.film(0, -1, 0), SecretBox.BAD);
        due("27 lane above", x.film(0, 4, 0), SecretBox.BAD);
        due("27 nothing", x.film(2, 0, -1), SecretBox.NULL);
        due("27 another lane", x.film(1, 1, -1), SecretBox.CAST);
        due("27 i below", x.film(0, 0, -1), SecretBox.INDEX);
        due("27 i above", x.film(0, 0, 3), SecretBox.INDEX);
        due("27 nothing came", x.to(0, 0, 1, 0), 21);
        due("27 the last that fits", x.film(0, 0, 2), 3);
        due("27 none to spare", x.film(1, 2, 0), 3);
        SecretBox none = new SecretBox();
        none.sheet(0, 0, 5);
        due("27 no panels", none.film(0, 0, 0), SecretBox.BAD);
        for (int lane = 0; lane < 4; lane++) {
            x.sheet(3, lane, 3);
            due("27 lane " + lane, x.film(3, lane, 0), 3);
            due("27 lane " + lane, x.to(3, lane, 0, -1), 0);
        }
    }

    private static void newSheets() {
        SecretBox x = new SecretBox();
        due("28 sheet below", x.sheet(-1, 0, 1), SecretBox.BAD);
        due("28 sheet above", x.sheet(4, 0, 1), SecretBox.BAD);
        due("28 lane below", x.sheet(0, -1, 1), SecretBox.BAD);
        due("28 lane above", x.sheet(0, 4, 1), SecretBox.BAD);
        due("28 n above", x.sheet(0, 0, 25), SecretBox.BAD);
        due("28 n below", x.sheet(0, 0, -1), SecretBox.SIZE);
        due("28 n far below", x.sheet(0, 0, Integer.MIN_VALUE), SecretBox.SIZE);
        due("28 BAD ahead of SIZE", x.sheet(4, 0, -1), SecretBox.BAD);
        due("28 nothing came", x.drop(0), SecretBox.NULL);
        for (int s = 0; s < 4; s++) due("28 sheet " + s, x.sheet(s, s, 24 - s), 24 - s);
        due("28 empty", x.sheet(2, 1, 0), 0);
        due("28 refused", x.sheet(3, 0, -1), SecretBox.SIZE);
        due("28 refused", x.item(3, 3, 20, 1), 1);
        due("28 a sheet of its own", x.item(2, 1, 0, 1), SecretBox.INDEX);
        Check.read(x, "p1");
        x.item(3, 3, 0, 7);
        due("28 7", x.to(3, 3, 0, -1), SecretBox.NOT);
        x.sheet(3, 3, 5);
        due("28 a new row holds 0", x.to(3, 3, 0, -1), 0);
    }

    private static void drops() {
        SecretBox x = new SecretBox();
        due("29 below", x.drop(-1), SecretBox.BAD);
        due("29 above", x.drop(4), SecretBox.BAD);
        due("29 nothing", x.drop(3), SecretBox.NULL);
        x.sheet(3, 1, 24);
        x.sheet(2, 1, 0);
        due("29 dropped", x.drop(3), 24);
        due("29 nothing", x.drop(3), SecretBox.NULL);
        due("29 an empty row", x.drop(2), 0);
        due("29 nothing", x.drop(2), SecretBox.NULL);
        due("29 nothing", x.item(2, 1, 0, 0), SecretBox.NULL);
    }

    private static void items() {
        SecretBox x = new SecretBox();
        x.sheet(1, 1, 3);
        due("30 sheet below", x.item(-1, 1, 0, 1), SecretBox.BAD);
        due("30 sheet above", x.item(4, 1, 0, 1), SecretBox.BAD);
        due("30 lane below", x.item(1, -1, 0, 1), SecretBox.BAD);
        due("30 lane above", x.item(1, 4, 0, 1), SecretBox.BAD);
        due("30 nothing", x.item(0, 1, -1, 1), SecretBox.NULL);
        due("30 another lane", x.item(1, 0, -1, 1), SecretBox.CAST);
        due("30 i below", x.item(1, 1, -1, 1), SecretBox.INDEX);
        due("30 i above", x.item(1, 1, 3, 1), SecretBox.INDEX);
        due("30 i far above", x.item(1, 1, Integer.MAX_VALUE, 1), SecretBox.INDEX);
        due("30 i far below", x.item(1, 1, Integer.MIN_VALUE, 1), SecretBox.INDEX);
        due("30 the last", x.item(1, 1, 2, 1), 1);
        due("30 the first", x.item(1, 1, 0, Long.MAX_VALUE), 1);
        x.sheet(1, 1, 0);
        due("30 none", x.item(1, 1, 0, 1), SecretBox.INDEX);
    }

    /** Whether v is the PLACE 1, taken as an item of that LANE: then one SLIDE leads there. */
    private static void dueAsPlace(SecretBox x, int lane, long v, int want) {
        x.sheet(0, lane, 1);
        x.item(0, lane, 0, v);
        due("30 lane " + lane + " of " + v, x.to(0, lane, 0, -1), want);
    }

    private static void lanes() {
        int[] bits = {8, 16, 32, 64};
        for (int lane = 0; lane < 4; lane++) {
            SecretBox x = Check.made("p3");
            for (int high = 4; high < 64; high++) {
                int due = high >= bits[lane] ? 1 : SecretBox.NOT;
                dueAsPlace(x, lane, (1L << high) + 1, due);
            }
            dueAsPlace(x, lane, -1, SecretBox.NOT);
            dueAsPlace(x, lane, 3, 3);
            dueAsPlace(x, lane, Long.MIN_VALUE, lane == 3 ? SecretBox.NOT : 0);
        }
        SecretBox x = Check.made("p3");
        dueAsPlace(x, 0, 0x80, SecretBox.NOT);
        dueAsPlace(x, 1, 0x8000, SecretBox.NOT);
        dueAsPlace(x, 2, 0x80000000L, SecretBox.NOT);
    }

    /** Items 0 to 5 of a SHEET of bytes, a digit each. */
    private static void dueItems(String of, SecretBox x, int sheet, String digits) {
        for (int i = 0; i < digits.length(); i++) {
            due("31 item " + i + " " + of, x.to(sheet, 0, i, -1), digits.charAt(i) - '0');
        }
    }

    private static SecretBox withRows() {
        SecretBox x = Check.made("p3");
        x.sheet(0, 0, 6);
        x.sheet(1, 0, 4);
        for (int i = 0; i < 6; i++) x.item(0, 0, i, i % 4);
        for (int i = 0; i < 4; i++) x.item(1, 0, i, 3 - i);
        dueItems("at first", x, 0, "012301");
        dueItems("at first", x, 1, "3210");
        return x;
    }

    private static void copies() {
        SecretBox x = withRows();
        due("31 copy", x.copy(0, 2, 1, 1, 2), 2);
        dueItems("of the one", x, 0, "012301");
        dueItems("of the other", x, 1, "3230");
        due("31 all", x.copy(1, 0, 0, 2, 4), 4);
        dueItems("of all", x, 0, "013230");
        dueItems("of all", x, 1, "3230");
        due("31 none", x.copy(0, 6, 1, 4, 0), 0);
        due("31 none", x.copy(0, 0, 1, 0, 0), 0);
        dueItems("of none", x, 0, "013230");
        due("31 on itself", x.copy(0, 1, 0, 1, 5), 5);
        dueItems("on itself", x, 0, "013230");
        for (int lane = 0; lane < 4; lane++) {
            x.sheet(2, lane, 3);
            x.sheet(3, lane, 3);
            x.item(2, lane, 0, 2);
            due("31 lane " + lane, x.copy(2, 0, 3, 2, 1), 1);
            due("31 lane " + lane, x.to(3, lane, 2, -1), 2);
        }
    }

    private static void overlappingCopies() {
        SecretBox x = withRows();
        due("31 onward", x.copy(0, 0, 0, 1, 5), 5);
        dueItems("onward", x, 0, "001230");
        x = withRows();
        due("31 backward", x.copy(0, 2, 0, 0, 4), 4);
        dueItems("backward", x, 0, "230101");
    }

    private static void copyFaults() {
        SecretBox x = withRows();
        x.sheet(2, 1, 4);
        due("31 from below", x.copy(-1, 0, 1, 0, 1), SecretBox.BAD);
        due("31 from above", x.copy(4, 0, 1, 0, 1), SecretBox.BAD);
        due("31 to below", x.copy(1, 0, -1, 0, 1), SecretBox.BAD);
        due("31 to above", x.copy(1, 0, 4, 0, 1), SecretBox.BAD);
        due("31 BAD ahead of NULL", x.copy(3, 0, 4, 0, 1), SecretBox.BAD);
        due("31 nothing from", x.copy(3, 0, 1, 0, 1), SecretBox.NULL);
        due("31 nothing to", x.copy(1, 0, 3, -1, 1), SecretBox.NULL);
        due("31 unlike lanes", x.copy(0, -1, 2, 0, 1), SecretBox.CAST);
        due("31 unlike lanes", x.copy(2, 0, 0, 0, -1), SecretBox.CAST);
        due("31 n below", x.copy(0, 0, 1, 0, -1), SecretBox.INDEX);
        due("31 n far below", x.copy(0, 0, 1, 0, Integer.MIN_VALUE), SecretBox.INDEX);
        due("31 i below", x.copy(0, -1, 1, 0, 1), SecretBox.INDEX);
        due("31 j below", x.copy(0, 0, 1, -1, 1), SecretBox.INDEX);
        due("31 i above", x.copy(0, 6, 1, 0, 1), SecretBox.INDEX);
        due("31 j above", x.copy(0, 0, 1, 4, 1), SecretBox.INDEX);
        due("31 too many from", x.copy(1, 1, 0, 0, 4), SecretBox.INDEX);
        due("31 too many to", x.copy(0, 0, 1, 1, 4), SecretBox.INDEX);
        due("31 far too many", x.copy(0, 1, 1, 1, Integer.MAX_VALUE), SecretBox.INDEX);
        due("31 far off", x.copy(0, Integer.MAX_VALUE, 1, 0, Integer.MAX_VALUE), SecretBox.INDEX);
        due("31 none, i below", x.copy(0, -1, 1, 0, 0), SecretBox.INDEX);
        due("31 none, j below", x.copy(0, 0, 1, -1, 0), SecretBox.INDEX);
        due("31 none, i above", x.copy(0, 7, 1, 0, 0), SecretBox.INDEX);
        due("31 none, j above", x.copy(0, 0, 1, 5, 0), SecretBox.INDEX);
        dueItems("of what is refused", x, 0, "012301");
        dueItems("of what is refused", x, 1, "3210");
    }
}
