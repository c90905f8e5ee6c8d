/** Promises 1 to 9: panels, locks, the lid, the tape, what is told of them. */
public final class PanelsTest {
    private static final Check check = new Check("PanelsTest");

    public static void main(String[] args) {
        newObject();
        panels();
        locks();
        theLid();
        ofPanels();
        ringsAndBolts();
        locksHold();
        atLocks();
        letters();
        texts();
        faults();
        blanks();
        boxInPlaceOfAll();
        counts();
        check.end();
    }

    private static void due(String call, long got, long want) {
        check.due(call, got, want);
    }

    private static void newObject() {
        SecretBox x = new SecretBox();
        for (int what = 0; what <= 8; what++) due("1 count(" + what + ")", x.count(what), 0);
        due("1 seed", x.seed(7), 1);
        due("1 restore", x.restore(), SecretBox.NONE);
        due("1 undo", x.undo(), SecretBox.NONE);
        for (int s = 0; s < 4; s++) due("1 drop(" + s + ")", x.drop(s), SecretBox.NULL);
        due("1 box", x.box(), -20);
        due("1 type", x.type('p'), 1);
        due("1 of", x.of(0, 0), SecretBox.BAD);
        due("1 at", x.at(0, 0), SecretBox.BAD);
    }

    private static void panels() {
        SecretBox x = new SecretBox();
        due("2 kind below", x.panel(-1, 1), SecretBox.BAD);
        due("2 kind above", x.panel(5, 1), SecretBox.BAD);
        due("2 deep below", x.panel(0, 0), SecretBox.BAD);
        due("2 deep above", x.panel(0, 4), SecretBox.BAD);
        due("2 far off", x.panel(Integer.MIN_VALUE, Integer.MAX_VALUE), SecretBox.BAD);
        due("2 none came", x.count(0), 0);
        int[] deeps = {1, 2, 3, 1, 3};
        for (int p = 0; p < 5; p++) {
            due("2 panel " + p, x.panel(p, deeps[p]), p);
            due("2 count", x.count(0), p + 1);
        }
        for (int p = 0; p < 5; p++) {
            due("2 kind of " + p, x.of(p, 0), p);
            due("2 deep of " + p, x.of(p, 1), deeps[p]);
            due("2 place of " + p, x.of(p, 2), 0);
        }
        due("2 a sixth", x.panel(0, 1), SecretBox.FULL);
        due("2 BAD ahead of FULL", x.panel(5, 1), SecretBox.BAD);
        due("2 still five", x.count(0), 5);

        SecretBox y = Check.made("p2");
        y.slide(0, 1);
        y.panel(9, 1);
        due("2 refused: may be undone", y.count(8), 1);
        y.panel(0, 1);
        due("2 nothing to be undone", y.count(8), 0);
        due("2 nothing to be undone", y.undo(), SecretBox.NONE);
        due("2 the others stay", y.count(7), 1);
        SecretBox z = Check.made("p1,p1,p1,p1,p1");
        z.slide(0, 1);
        z.panel(0, 1);
        due("2 FULL: may be undone", z.count(8), 1);
    }

    private static void locks() {
        SecretBox x = new SecretBox();
        due("3 no panels", x.lock(0, 0, 1, 1), SecretBox.BAD);
        Check.read(x, "p1,p2,p3");
        due("3 panel below", x.lock(-1, 0, 1, 1), SecretBox.BAD);
        due("3 panel above", x.lock(3, 0, 1, 1), SecretBox.BAD);
        due("3 way below", x.lock(0, -1, 1, 1), SecretBox.BAD);
        due("3 way above", x.lock(0, 3, 1, 1), SecretBox.BAD);
        due("3 other below", x.lock(0, 0, -1, 1), SecretBox.BAD);
        due("3 other above", x.lock(0, 0, 3, 1), SecretBox.BAD);
        due("3 the same", x.lock(1, 0, 1, 1), SecretBox.BAD);
        due("3 places below", x.lock(0, 0, 1, 0), SecretBox.BAD);
        due("3 places far below", x.lock(0, 0, 1, -1), SecretBox.BAD);
        due("3 places above", x.lock(0, 0, 1, 16), SecretBox.BAD);
        due("3 none came", x.count(1), 0);
        x.slide(2, 1);
        x.lock(0, 0, 0, 1);
        due("3 refused: may be undone", x.count(8), 1);
        due("3 first", x.lock(0, 0, 1, 1), 0);
        due("3 nothing to be undone", x.count(8), 0);
        due("3 second", x.lock(1, 1, 0, 15), 1);
        due("3 third", x.lock(2, 2, 0, 8), 2);
        due("3 alike ones", x.lock(2, 2, 0, 8), 3);
        due("3 fifth", x.lock(2, 0, 1, 4), 4);
        due("3 sixth", x.lock(0, 1, 2, 3), 5);
        x.slide(0, 1);
        int known = x.count(8);
        due("3 one was done", known, 1);
        due("3 a seventh", x.lock(0, 0, 1, 1), SecretBox.FULL);
        due("3 BAD ahead of FULL", x.lock(0, 0, 0, 1), SecretBox.BAD);
        due("3 six", x.count(1), 6);
        due("3 FULL: may be undone", x.count(8), 1);
        due("3 none is filed", x.count(5), 0);
    }

    private static void theLid() {
        SecretBox x = new SecretBox();
        due("4 no panels", x.lid(0), SecretBox.BAD);
        Check.read(x, "p1,p2,p1");
        due("4 lid at first", x.count(2), 0);
        due("4 below", x.lid(-1), SecretBox.BAD);
        due("4 above", x.lid(3), SecretBox.BAD);
        due("4 refused", x.count(2), 0);
        x.slide(0, 1);
        due("4 open", x.count(3), 1);
        due("4 was", x.lid(2), 0);
        due("4 is", x.count(2), 2);
        due("4 not open", x.count(3), 0);
        due("4 may still be undone", x.count(8), 1);
        due("4 was", x.lid(1), 2);
        due("4 the same", x.lid(1), 1);
        x.slide(1, 1);
        due("4 not all out", x.count(3), 0);
        x.slide(1, 1);
        due("4 all out", x.count(3), 1);
        x.undo();
        due("4 the lid is not undone", x.count(2), 1);
    }

    private static void ofPanels() {
        SecretBox x = Check.made("p2,s1");
        due("5 below", x.of(-1, 0), SecretBox.BAD);
        due("5 above", x.of(2, 0), SecretBox.BAD);
        due("5 what below", x.of(0, -1), SecretBox.BAD);
        due("5 what above", x.of(0, 5), SecretBox.BAD);
        due("5 kind", x.of(1, 0), 1);
        due("5 deep", x.of(0, 1), 2);
        due("5 place", x.of(0, 2), 0);
        due("5 in", x.of(0, 3), 0);
        due("5 out", x.of(0, 4), 1);
        x.slide(0, 1);
        due("5 place", x.of(0, 2), 1);
        due("5 in", x.of(0, 3), 1);
        due("5 out", x.of(0, 4), 1);
        x.slide(0, 1);
        due("5 place", x.of(0, 2), 2);
        due("5 in", x.of(0, 3), 1);
        due("5 out", x.of(0, 4), 0);
        x.slide(1, 1);
        due("5 sprung in", x.of(1, 3), 1);
        due("5 sprung out", x.of(1, 4), 0);
    }

    private static void ringsAndBolts() {
        SecretBox x = Check.made("r1,r1,r1,b1,b2");
        due("5 ring 0", x.of(0, 4), 1);
        due("5 ring 1, none ahead", x.of(1, 4), 0);
        due("5 ring 2, none ahead", x.of(2, 4), 0);
        x.slide(0, 1);
        due("5 ring 0 in", x.of(0, 3), 1);
        due("5 ring 1, 0 is out", x.of(1, 4), 1);
        due("5 ring 2, 1 is in", x.of(2, 4), 0);
        x.slide(1, 1);
        due("5 ring 2, 0 is out", x.of(2, 4), 0);
        due("5 ring 1 in, 0 is out", x.of(1, 3), 1);
        x.slide(0, 0);
        due("5 ring 1 in, 0 is in", x.of(1, 3), 0);
        due("5 ring 2, 1 alone is out", x.of(2, 4), 1);
        Check.slides(x, 21, 1, 10, 0);
        due("5 ring 2 alone is out", x.count(7), 16);
        due("5 bolt 3, 2 alone is out", x.of(3, 4), 1);
        due("5 bolt 4, 3 is in", x.of(4, 4), 0);
        Check.slides(x, 31);
        Check.slides(x, 1);
        due("5 bolt 3 in: always", x.of(3, 3), 1);
        due("5 ring 2 in: not", x.of(2, 3), 0);
        due("5 bolt 4 out, lesser ones are out", x.of(4, 4), 0);

        SecretBox y = Check.made("b2,b2");
        due("5 bolt 0 out: always", y.of(0, 4), 1);
        due("5 bolt 1 out", y.of(1, 4), 0);
        Check.slides(y, 1, 11, 0);
        due("5 bolt 1 out again", y.of(1, 4), 0);
        due("5 bolt 1 in", y.of(1, 3), 1);
        SecretBox z = Check.made("p1,p3,r2");
        Check.slides(z, 11);
        due("5 a plain one ahead, out a step", z.of(2, 4), 1);
        Check.slides(z, 1);
        due("5 a lesser one is out", z.of(2, 4), 0);
    }

    private static void locksHold() {
        SecretBox in = Check.made("p2,p2;0<11");
        Check.slides(in, 1);
        due("5 locked in", in.of(0, 3), 0);
        due("5 not out", in.of(0, 4), 1);
        Check.slides(in, 11);
        due("5 let", in.of(0, 3), 1);
        Check.slides(in, 11);
        due("5 locked again", in.of(0, 3), 0);
        in.file(0);
        due("5 filed", in.of(0, 3), 1);

        SecretBox both = Check.made("p2,p2;0=102");
        Check.slides(both, 1);
        due("5 both: let out", both.of(0, 4), 1);
        due("5 both: let in", both.of(0, 3), 1);
        Check.slides(both, 11);
        due("5 both: locked out", both.of(0, 4), 0);
        due("5 both: locked in", both.of(0, 3), 0);

        SecretBox all = Check.made("p1,p1,p1;0>11,0>21");
        due("5 none of two", all.of(0, 4), 0);
        Check.slides(all, 11);
        due("5 one of two", all.of(0, 4), 0);
        Check.slides(all, 21);
        due("5 all of two", all.of(0, 4), 1);
        due("5 others are free", all.of(1, 3), 1);
    }

    private static void atLocks() {
        SecretBox y = Check.made("p1,p2,p3;1=20123,0<22");
        due("6 below", y.at(-1, 0), SecretBox.BAD);
        due("6 above", y.at(2, 0), SecretBox.BAD);
        due("6 what below", y.at(0, -1), SecretBox.BAD);
        due("6 what above", y.at(0, 6), SecretBox.BAD);
        int[] first = {1, 2, 2, 15, 0, 1};
        int[] second = {0, 0, 2, 4, 0, 0};
        for (int what = 0; what < 6; what++) {
            due("6 at(0, " + what + ")", y.at(0, what), first[what]);
            due("6 at(1, " + what + ")", y.at(1, what), second[what]);
        }
        Check.slides(y, 21, 21);
        due("6 met", y.at(1, 5), 1);
        y.file(1);
        due("6 filed", y.at(1, 4), 1);
        due("6 the other is not", y.at(0, 4), 0);
        due("6 met, though filed", y.at(1, 5), 1);
        Check.slides(y, 21);
        due("6 not met, though filed", y.at(1, 5), 0);
    }

    private static void letters() {
        SecretBox x = new SecretBox();
        due("7 below", x.type(31), SecretBox.BAD);
        due("7 above", x.type(127), SecretBox.BAD);
        due("7 far below", x.type(-1), SecretBox.BAD);
        due("7 far above", x.type(256 + 'p'), SecretBox.BAD);
        due("7 least", x.type(32), 1);
        due("7 most", x.type(126), 2);
        for (int k = 3; k <= 90; k++) due("7 letter " + k, x.type(' '), k);
        due("7 FULL", x.type('p'), SecretBox.FULL);
        due("7 BAD ahead of FULL", x.type(0), SecretBox.BAD);
        due("7 a fault", x.box(), -21);
        due("7 empty then", x.type('p'), 1);
        due("7 one more", x.type('3'), 2);
        due("7 a box", x.box(), 1);
        due("7 empty then", x.type('p'), 1);
        SecretBox y = new SecretBox();
        for (int k = 0; k < 88; k++) y.type(' ');
        y.type('s');
        y.type('2');
        due("7 all ninety are read", y.box(), 1);
        due("7 a sprung one", y.of(0, 0), 1);
        for (int k = 0; k < 90; k++) y.type(' ');
        due("7 ninety blanks", y.box(), -110);
    }

    private static void texts() {
        SecretBox x = new SecretBox();
        due("8 all kinds", Check.read(x, "p1,s2,r3,l1!,b2;0<10,1>2123,2=301,3<401"), 5);
        int[] deeps = {1, 2, 3, 1, 2};
        for (int p = 0; p < 5; p++) {
            due("8 kind of " + p, x.of(p, 0), p);
            due("8 deep of " + p, x.of(p, 1), deeps[p]);
        }
        due("8 lid", x.count(2), 3);
        due("8 locks", x.count(1), 4);
        int[][] locks = {{0, 0, 1, 1}, {1, 1, 2, 14}, {2, 2, 3, 3}, {3, 0, 4, 3}};
        for (int lock = 0; lock < 4; lock++) {
            for (int what = 0; what < 4; what++) due("8 at(" + lock + ", " + what + ")", x.at(lock, what), locks[lock][what]);
        }
        due("8 six locks", Check.read(x, "p1,p1;0<10,0<11,0>10,1>01,1=001,0=1"), -55);
        due("8 six locks", Check.read(x, "p1,p1;0<10,0<11,0>10,1>01,1=001,0=11"), 2);
        due("8 six locks", x.count(1), 6);
        due("8 lid 0 again", x.count(2), 0);
        due("8 one panel, lid", Check.read(x, "p1!"), 1);
        due("8 no locks", x.count(1), 0);
        due("8 last lid", Check.read(x, "p1,p1,p1,p1,p1!"), 5);
        due("8 last lid", x.count(2), 4);
    }

    private static void faults() {
        String[] texts = {"", "x", "P1", "1", "p", "p0", "p4", "pp", "p1p", "p1!!", "p1!,p1!", "p1,", "p1,,", "p1,p1,p1,p1,p1,p1",
            "p1;", "p1;;", "p1;0", "p1;0<", "p1;0<0", "p1;1", "p1,p1;2", "p1,p1;0!", "p1,p1;0<2", "p1,p1;0<0", "p1,p1;0<1",
            "p1,p1;0<12", "p1,p3;0<13", "p1,p3;0<14", "p1,p3;0<132", "p1,p3;0<111", "p1,p1;0<10,", "p1,p1;0<10;", "p1,p1;0<101x",
            "p1,p1;0<10!", "p1,p1;0<10,0", "p1,p1;0<10,2", "p1,p1;0<10,1>0", "p1,p1;0<010", "~", "p1 !;x", "p1,p1;a"};
        int[] places = {0, 0, 0, 0, 1, 1, 1, 1, 2, 3, 6, 3, 3, 14,
            3, 3, 4, 5, 5, 3, 6, 7, 8, 8, 9,
            9, -2, 9, 10, 10, 11, 10, 11,
            10, 12, 11, 14, 8, 0, 5, 6};
        for (int k = 0; k < texts.length; k++) {
            SecretBox x = Check.made("l3,b2!;0>11");
            Check.slides(x, 1);
            due("8 \"" + texts[k] + "\"", Check.read(x, texts[k]), places[k] < 0 ? -places[k] : -20 - places[k]);
            if (places[k] < 0) continue;
            due("8 all else stays: panels", x.count(0), 2);
            due("8 all else stays: locks", x.count(1), 1);
            due("8 all else stays: lid", x.count(2), 1);
            due("8 all else stays: kind", x.of(0, 0), 3);
            due("8 all else stays: undone", x.count(8), x.count(7) == 0 ? 0 : 1);
            due("8 the tape is empty", x.type('p'), 1);
        }
    }

    private static void blanks() {
        blanksEverywhere("p1,s3!;0<123,1=01");
        SecretBox x = new SecretBox();
        due("8 fault behind blanks", Check.read(x, "  x"), -22);
        due("8 fault behind blanks", Check.read(x, " p  4"), -24);
        due("8 the end, blanks too", Check.read(x, " p 1 , "), -27);
        due("8 blanks alone", Check.read(x, "   "), -23);
        due("8 blanks behind", Check.read(x, "p1  "), 1);
    }

    private static void blanksEverywhere(String text) {
        SecretBox x = new SecretBox();
        StringBuilder blank = new StringBuilder(" ");
        for (int k = 0; k < text.length(); k++) blank.append(text.charAt(k)).append("  ");
        due("8 blanks everywhere", Check.read(x, blank.toString()), 2);
        due("8 blanks: lid", x.count(2), 1);
        due("8 blanks: places", x.at(0, 3), 12);
        due("8 blanks: way", x.at(1, 1), 2);
    }

    private static void boxInPlaceOfAll() {
        SecretBox x = Check.made("p2,p2!,p2;0>10,1>00");
        x.sheet(1, 2, 5);
        x.seed(1000);
        Check.slides(x, 21, 21);
        x.file(1);
        x.image();
        due("8 a box", Check.read(x, "p1,p1"), 2);
        due("8 all in", x.count(7), 0);
        due("8 no lock", x.count(1), 0);
        due("8 none filed", x.count(5), 0);
        due("8 lid 0", x.count(2), 0);
        due("8 nothing to be undone", x.count(8), 0);
        due("8 sheets stay", x.drop(1), 5);
        due("8 the draw stays", x.seed(1), 1000);
        due("8 the image stays", x.restore(), 1);
        due("8 the image stays", x.count(7), 32);
    }

    private static void counts() {
        SecretBox x = Check.made("p2,l2,s3,r1!,b2;0>11,3=212");
        due("9 below", x.count(-1), SecretBox.BAD);
        due("9 above", x.count(9), SecretBox.BAD);
        due("9 panels", x.count(0), 5);
        due("9 locks", x.count(1), 2);
        due("9 lid", x.count(2), 3);
        due("9 which may", x.count(6), 2);
        Check.slides(x, 21, 21, 11);
        due("9 state", x.count(7), 4 + 16);
        due("9 out", x.count(4), 6);
        due("9 which may", x.count(6), 5);
        Check.slides(x, 21, 11, 11);
        due("9 state", x.count(7), 8);
        Check.slides(x, 21);
        due("9 a latch all out stays", x.count(7), 8 + 16);
        x.file(1);
        due("9 filed", x.count(5), 2);
        due("9 undone", x.count(8), 8);
        Check.slides(x, 31);
        due("9 not: 1 is out", x.count(3), 0);
        SecretBox y = Check.made("p1,p1,p1,p1,p3");
        Check.slides(y, 1, 11, 21, 31, 41, 41, 41);
        due("9 the farthest state", y.count(7), 1 + 4 + 16 + 64 + 768);
        due("9 all out", y.count(4), 31);
        due("9 open", y.count(3), 1);
        due("9 slides that may", y.count(6), 5);
    }
}
