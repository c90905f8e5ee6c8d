/** The promises 1 to 31, sentence by sentence: each answer, and what is refused, at the ends of what a number may be. */
public final class PromisesTest {
    private static final int BAD = SecretBox.BAD, NOT = SecretBox.NOT, FULL = SecretBox.FULL, NONE = SecretBox.NONE;
    private static final int NULL = SecretBox.NULL, CAST = SecretBox.CAST, INDEX = SecretBox.INDEX, SIZE = SecretBox.SIZE;
    private static final int MOST = Integer.MAX_VALUE, LEAST = Integer.MIN_VALUE;
    private static final String FIVE = "p1,p1,p1,p1,p1";
    private static final Check check = new Check("PromisesTest");
    private static final Reading doc = new Reading(check, "## Promise 1:", "## Not promised");

    public static void main(String[] args) {
        newObject();
        panel();
        lock();
        lid();
        of();
        at();
        type();
        box();
        count();
        slide();
        shut();
        file();
        drift();
        undo();
        seed();
        opens();
        rows();
        reach();
        key();
        files();
        game();
        fumble();
        image();
        restore();
        to();
        clicks();
        film();
        sheet();
        drop();
        item();
        copy();
        doc.end();
        check.end();
    }

    private static void due(String call, long got, long want) {
        check.due(call, got, want);
    }

    private static void range(String call, String text, Edges.Call asked, int low, int high) {
        Edges.range(check, call, text, asked, low, high);
    }

    private static void newObject() {
        doc.edge("## Promise 1: A new object `SecretBox()`: No panels.");
        SecretBox x = new SecretBox();
        for (int what = 0; what <= 8; what++) due("count(" + what + ")", x.count(what), 0);
        due("of(0, 0)", x.of(0, 0), BAD);
        due("lid(0)", x.lid(0), BAD);
        due("slide(0, 1)", x.slide(0, 1), BAD);
        due("panel(0, 1) is the first", x.panel(0, 1), 0);
    }

    private static void panel() {
        doc.edge("## Promise 2: panel `int panel(int kind, int deep)`: A PANEL: its number.");
        SecretBox x = new SecretBox();
        for (int p = 0; p < 5; p++) due("panel " + p, x.panel(4 - p, 1 + p % 3), p);
        for (int p = 0; p < 5; p++) due("kind and deep of " + p, 10 * x.of(p, 0) + x.of(p, 1), 10 * (4 - p) + 1 + p % 3);
        SecretBox text = Check.made("p1,p1");
        due("behind those of a text", text.panel(0, 1), 2);

        doc.edge("BAD; FULL: 5.");
        range("panel(v, 1)", "", (y, v) -> y.panel(v, 1), 0, 4);
        range("panel(0, v)", "", (y, v) -> y.panel(0, v), 1, 3);
        due("the fifth", Check.made("p1,p1,p1,p1").panel(0, 1), 4);
        due("a sixth", Check.made(FIVE).panel(0, 1), FULL);
        due("a sixth", x.panel(4, 3), FULL);
        due("a sixth that is BAD", x.panel(5, 3), BAD);
    }

    private static void lock() {
        doc.edge("## Promise 3: lock `int lock(int panel, int way, int other, int places)`: A LOCK on a PANEL for a way: its number.");
        SecretBox x = Check.made("p1,p1,p1");
        for (int l = 0; l < 6; l++) due("lock " + l, x.lock(l % 3, l % 3, (l + 1) % 3, l + 10), l);
        for (int l = 0; l < 6; l++) {
            for (int what = 0; what < 4; what++) {
                due("at(" + l + ", " + what + ")", x.at(l, what), new int[] {l % 3, l % 3, (l + 1) % 3, l + 10}[what]);
            }
        }
        due("behind those of a text", Check.made("p1,p1;0<10,0<10").lock(0, 0, 1, 1), 2);

        doc.edge("BAD (the same PANEL, too); FULL: 6.");
        range("lock(v, 0, 1 or 0, 1)", "p1,p1,p1", (y, v) -> y.lock(v, 0, v == 0 ? 1 : 0, 1), 0, 2);
        range("lock(0, v, 1, 1)", "p1,p1", (y, v) -> y.lock(0, v, 1, 1), 0, 2);
        range("lock(1 or 0, 0, v, 1)", "p1,p1,p1", (y, v) -> y.lock(v == 0 ? 1 : 0, 0, v, 1), 0, 2);
        range("lock(0, 0, 1, v)", "p1,p1", (y, v) -> y.lock(0, 0, 1, v), 1, 15);
        for (int p = 0; p < 5; p++) due("the same panel", Check.made(FIVE).lock(p, 2, p, 15), BAD);
        due("without panels", new SecretBox().lock(0, 0, 1, 1), BAD);
        due("with one panel", Check.made("p1").lock(0, 0, 1, 1), BAD);
        due("a seventh", x.lock(0, 0, 1, 1), FULL);
        due("a seventh of the same panel", x.lock(0, 0, 0, 1), BAD);
        due("a seventh", Check.made("p1,p1;0<10,0<10,0<10,0<10,0<10,0<10").lock(0, 0, 1, 1), FULL);
    }

    private static void lid() {
        doc.edge("## Promise 4: lid `int lid(int panel)`: A PANEL is THE LID: which was.");
        SecretBox x = Check.made(FIVE);
        due("was the first", x.lid(4), 0);
        due("was the last", x.lid(4), 4);
        due("was the last", x.lid(0), 4);
        due("is the first", x.count(2), 0);

        doc.edge("BAD.");
        range("lid(v)", FIVE, (y, v) -> y.lid(v), 0, 4);
        range("lid(v) of one", "p1", (y, v) -> y.lid(v), 0, 0);
        due("without panels", new SecretBox().lid(0), BAD);
    }

    private static void of() {
        doc.edge("## Promise 5: of `int of(int panel, int what)`: Of a PANEL: 0 KIND, 1 how DEEP, 2 its PLACE, "
            + "3 whether it MAY slide IN (1, 0), 4 OUT (1, 0).");
        SecretBox x = Check.made("p1,b3;1>00");
        int[] in = {4, 3, 0, 0, 0};
        for (int what = 0; what < 5; what++) due("of(1, " + what + ")", x.of(1, what), in[what]);
        x.file(0);
        Check.slides(x, 1, 11, 0);
        int[] out = {4, 3, 1, 1, 0};
        for (int what = 0; what < 5; what++) due("of(1, " + what + ") out", x.of(1, what), out[what]);
        Check.slides(x, 1, 11, 11);
        int[] allOut = {4, 3, 3, 1, 0};
        for (int what = 0; what < 5; what++) due("of(1, " + what + ") all out", x.of(1, what), allOut[what]);

        doc.edge("BAD.");
        range("of(v, 0)", FIVE, (y, v) -> y.of(v, 0), 0, 4);
        range("of(v, 0) of one", "p1", (y, v) -> y.of(v, 0), 0, 0);
        range("of(0, v)", "p1", (y, v) -> y.of(0, v), 0, 4);
        due("without panels", new SecretBox().of(0, 0), BAD);
    }

    private static void at() {
        doc.edge("## Promise 6: at `int at(int lock, int what)`: Of a LOCK: 0 the PANEL, 1 the way, 2 the other PANEL, 3 PLACES (a set), "
            + "4 whether FILED (1, 0), 5 whether the other PANEL is at one of them (1, 0).");
        SecretBox x = Check.made("p1,p1,p1,p3,p1;0<10,0<10,0<10,0<10,0<10,4=312");
        int[] first = {4, 2, 3, 6, 0, 0};
        for (int what = 0; what < 6; what++) due("at(5, " + what + ")", x.at(5, what), first[what]);
        int[] met = {0, 1, 1, 0};
        for (int place = 0; place <= 3; place++) {
            due("at(5, 5) at place " + place, x.at(5, 5), met[place]);
            Check.slides(x, 31);
        }
        x.file(5);
        due("filed", x.at(5, 4), 1);
        due("filed, not at one of them all the same", x.at(5, 5), 0);
        due("places of a filed one", x.at(5, 3), 6);
        due("another one is not filed", x.at(4, 4), 0);

        doc.edge("BAD.");
        range("at(v, 0)", "p1,p1;0<10,0<10,0<10,0<10,0<10,0<10", (y, v) -> y.at(v, 0), 0, 5);
        range("at(v, 0) of one", "p1,p1;0<10", (y, v) -> y.at(v, 0), 0, 0);
        range("at(0, v)", "p1,p1;0<10", (y, v) -> y.at(0, v), 0, 5);
        due("without locks", Check.made("p1,p1").at(0, 0), BAD);
    }

    private static void type() {
        doc.edge("## Promise 7: type `int type(int letter)`: One letter more behind THE TAPE: how many it has.");
        SecretBox x = new SecretBox();
        due("the first", x.type('l'), 1);
        due("the second, behind it", x.type('2'), 2);
        due("read in this order", x.box() * 100 + x.of(0, 0) * 10 + x.of(0, 1), 132);

        doc.edge("BAD: not 32 .. 126; FULL: 90.");
        range("type(v)", "", (y, v) -> y.type(v), 32, 126);
        due("a letter and 256 more", x.type(256 + 'p'), BAD);
        for (int k = 1; k <= 90; k++) due("letter " + k, x.type(k == 1 ? 's' : k == 90 ? '3' : ' '), k);
        due("letter 91", x.type(' '), FULL);
        due("letter 91, BAD", x.type(31), BAD);
        due("all 90 are read", x.box() * 100 + x.of(0, 0) * 10 + x.of(0, 1), 113);
        due("empty, not full", x.type(' '), 1);
    }

    private static void box() {
        doc.edge("## Promise 8: box `int box()`: THE TAPE, which is empty then (by a FAULT, too), is a BOX: how many PANELS.");
        StringBuilder text = new StringBuilder("p1");
        for (int panels = 1; panels <= 5; panels++) {
            SecretBox x = new SecretBox();
            due(panels + " panels", Check.read(x, text.toString()), panels);
            due("empty then", x.type('p'), 1);
            text.append(",p1");
        }
        SecretBox x = new SecretBox();
        due("a fault", Check.read(x, "p1,"), -23);
        due("empty by it", x.type('p'), 1);
        due("empty by another one", x.box() * 100 + x.box(), -2120);

        doc.edge("A FAULT (all else stays).");
        due("an empty tape", new SecretBox().box(), -20);
        due("at the end of the fullest", full("?"), -109);
        due("behind the end of the fullest", full("p"), -110);
        SecretBox y = Check.made("s3,p2!;0<11,1>00");
        y.seed(9);
        Check.slides(y, 11, 1);
        y.file(0);
        y.sheet(2, 2, 7);
        y.image();
        String before = Check.seen(y);
        for (String fault : new String[] {"", "x", "p1,p1,p1;0>11x", "r3,r3,r3!;2>01,2>", "p1;"}) {
            due("a fault of " + fault, Check.read(y, fault) <= -20 ? 1 : 0, 1);
            due("all else behind " + fault, Check.seen(y).equals(before) ? 1 : 0, 1);
        }
        due("the sheet", y.drop(2), 7);
        due("the image", y.restore(), 1);
        due("what may be undone", y.undo() * 100 + y.count(7), 205);
    }

    /** The FAULT of 89 blanks and a letter. */
    private static int full(String letter) {
        return Check.read(new SecretBox(), " ".repeat(89) + letter);
    }

    private static void count() {
        doc.edge("## Promise 9: count `int count(int what)`: 0 PANELS, 1 LOCKS, 2 THE LID, 3 whether OPEN (1, 0; 0 without PANELS), "
            + "4 which are OUT (a set), 5 which LOCKS are FILED (a set), 6 how many SLIDES MAY be done, "
            + "7 the STATE (PLACE of PANEL p times 4 to the p-th, all together), 8 what may be UNDONE.");
        SecretBox none = new SecretBox();
        for (int what = 0; what <= 8; what++) due("count(" + what + ") without panels", none.count(what), 0);
        SecretBox x = Check.made("p3,p3,p3,p3,p3!;0<10,0<10,0<10,0<10,0<10,0<10");
        int[] first = {5, 6, 4, 0, 0, 0, 5, 0, 0};
        for (int what = 0; what <= 8; what++) due("count(" + what + ") at first", x.count(what), first[what]);
        for (int slide = 1; slide <= 41; slide += 10) Check.slides(x, slide, slide, slide);
        for (int l = 0; l < 6; l++) x.file(l);
        int[] last = {5, 6, 4, 1, 31, 63, 5, 1023, 8};
        for (int what = 0; what <= 8; what++) due("count(" + what + ") all out", x.count(what), last[what]);
        Check.slides(x, 0, 10, 20, 30, 40);
        int[] between = {5, 6, 4, 0, 31, 63, 10, 2 * (1 + 4 + 16 + 64 + 256), 8};
        for (int what = 0; what <= 8; what++) due("count(" + what + ") but for a step", x.count(what), between[what]);
        due("none may be done", Check.made("p1,p1;0>11,1>01").count(6), 0);

        doc.edge("BAD.");
        range("count(v)", "p1", (y, v) -> y.count(v), 0, 8);
        range("count(v) without panels", "", (y, v) -> y.count(v), 0, 8);
    }

    private static void slide() {
        doc.edge("## Promise 10: slide `int slide(int panel, int way)`: A SLIDE: the STATE then.");
        SecretBox x = Check.made("p1,s2,p1,p1,p3");
        due("the first out", x.slide(0, 1), 1);
        due("the last out", x.slide(4, 1), 257);
        due("the last all out", x.slide(4, 1) + x.slide(4, 1), 513 + 769);
        due("one that slips next", x.slide(1, 1), 773);
        due("it slips in this state", x.slide(0, 0), 768);
        due("the last in", x.slide(4, 0), 512);

        doc.edge("BAD; NOT: it MAY not.");
        range("slide(v, 1)", FIVE, (y, v) -> y.slide(v, 1), 0, 4);
        range("slide(0, v)", "p1", (y, v) -> y.slide(0, v), 0, 1);
        due("without panels", new SecretBox().slide(0, 1), BAD);
        SecretBox ways = Check.made("p3");
        Check.slides(ways, 1);
        for (int way : new int[] {-1, 2, 3}) due("way " + way, ways.slide(0, way) * 10 + ways.count(7), 10 * BAD + 1);
        SecretBox y = Check.made("p1,p1;1>01");
        due("no place below", y.slide(0, 0), NOT);
        due("a lock", y.slide(1, 1), NOT);
        due("nothing is known of it", y.count(8), 0);
        due("out", y.slide(0, 1), 1);
        due("no place above", y.slide(0, 1), NOT);
        due("the lock lets it", y.slide(1, 1), 5);
        due("a kind", Check.made("p1,r1").slide(1, 1), NOT);
    }

    private static void shut() {
        doc.edge("## Promise 11: shut `int shut()`: SHUT: how many were OUT.");
        SecretBox x = Check.made("p3,p3,p3,p3,p3");
        for (int p = 0; p < 5; p++) {
            for (int q = 0; q <= p; q++) Check.slides(x, 10 * q + 1);
            due((p + 1) + " were out", x.shut(), p + 1);
            due("all in", x.count(7), 0);
        }

        doc.edge("NOT: none.");
        due("none is out any more", x.shut(), NOT);
        due("none was ever", Check.made("p1").shut(), NOT);
        due("without panels", new SecretBox().shut(), NOT);
        SecretBox y = Check.made("p1");
        y.shut();
        due("nothing is known of it", y.count(8), 0);
    }

    private static void file() {
        doc.edge("## Promise 12: file `int file(int lock)`: FILED: which LOCKS are then (a set).");
        SecretBox x = Check.made("p1,p1;0<10,0<10,0<10,0<10,0<10,0<10");
        due("the last", x.file(5), 32);
        due("the first", x.file(0), 33);
        for (int l = 1; l <= 4; l++) x.file(l);
        due("all", x.count(5), 63);

        doc.edge("BAD; NOT: it is.");
        range("file(v)", "p1,p1;0<10,0<10,0<10,0<10,0<10,0<10", (y, v) -> y.file(v), 0, 5);
        range("file(v) of one", "p1,p1;0<10", (y, v) -> y.file(v), 0, 0);
        due("without locks", Check.made("p1,p1").file(0), BAD);
        due("without panels", new SecretBox().file(0), BAD);
        for (int l = 0; l <= 5; l++) due("it is", x.file(l), NOT);
        due("nothing is known of it", x.count(8), 6);
        x.undo();
        due("it is not any more", x.file(4), 63);
    }

    private static void drift() {
        doc.edge("## Promise 13: drift `int drift(int n)`: A DRIFT of n times (1 .. 40; each by itself may be UNDONE): the STATE.");
        SecretBox one = Check.made("p3,p3,p3");
        SecretBox forty = Check.made("p3,p3,p3");
        for (int time = 1; time <= 40; time++) {
            one.drift(1);
            due("known behind " + time, one.count(8), Math.min(8, time));
        }
        due("forty at once", forty.drift(40), one.count(7));
        due("the draws of forty at once", forty.seed(1), one.seed(1));
        for (int k = 7; k >= 0; k--) {
            due("undone by itself", forty.undo(), k);
            one.undo();
            due("undone to the same state", forty.count(7), one.count(7));
            due("undone to the same draw", forty.seed(1), one.seed(1));
        }
        due("fewer than eight", known(7), 7);

        doc.edge("BAD.");
        range("drift(v)", "p1", (y, v) -> y.drift(v), 1, 40);
        range("drift(v) without panels", "", (y, v) -> y.drift(v), 1, 40);
    }

    private static int known(int n) {
        SecretBox x = Check.made("p3,p3");
        x.drift(n);
        return x.count(8);
    }

    private static void undo() {
        doc.edge("## Promise 14: undo `int undo()`: UNDONE: how many more may be.");
        SecretBox x = Check.made("p3,p3,p3");
        for (int k = 0; k < 3; k++) Check.slides(x, 1, 11, 21);
        for (int k = 7; k >= 0; k--) due("more may be", x.undo(), k);

        doc.edge("NONE: none is known.");
        due("eight were", x.undo(), NONE);
        due("still none", x.undo(), NONE);
        due("it stays", x.count(7), 1);
        due("of a new one", new SecretBox().undo(), NONE);
        due("of a box", Check.made("p1").undo(), NONE);
    }

    private static void seed() {
        doc.edge("## Promise 15: seed `int seed(int v)`: THE DRAW becomes v: what it was.");
        SecretBox x = new SecretBox();
        due("at first", x.seed(MOST), 1);
        due("the most", x.seed(0), MOST);
        due("the least", x.seed(5), 0);
        due("some", x.seed(5), 5);

        doc.edge("BAD: below 0.");
        due("below", x.seed(-1), BAD);
        due("far below", x.seed(LEAST), BAD);
        due("it stays", x.seed(0), 5);
    }

    private static void opens() {
        doc.edge("## Promise 16: opens `int opens(int k)`: OPENS: how many (k -1), the k-th SLIDE (NONE: not so many); NONE.");
        SecretBox x = Check.made("p1,p2!;1>01");
        int[] due = {3, 1, 11, 11, NONE, NONE};
        for (int k = -1; k <= 4; k++) due("opens(" + k + ")", x.opens(k), due[k + 1]);
        due("the most", x.opens(MOST), NONE);
        Check.slides(x, 1, 11, 11);
        due("open", x.opens(-1), 0);
        due("open", x.opens(0), NONE);
        SecretBox never = Check.made("p1,p1!;1>01,0>11");
        for (int k = -1; k <= 1; k++) due("never, opens(" + k + ")", never.opens(k), NONE);
        for (int k = -1; k <= 1; k++) due("without panels, opens(" + k + ")", new SecretBox().opens(k), NONE);

        doc.edge("BAD: k below -1.");
        for (int k : new int[] {-2, -3, LEAST}) {
            due("opens(" + k + ")", x.opens(k), BAD);
            due("never, opens(" + k + ")", never.opens(k), BAD);
            due("without panels, opens(" + k + ")", new SecretBox().opens(k), BAD);
        }
    }

    private static void rows() {
        doc.edge("## Promise 17: rows `int rows()`: ROWS (0 without PANELS).");
        due("without panels", new SecretBox().rows(), 0);
        due("one panel", Check.made("p1").rows(), 1);
        due("none", Check.made("p1,p1!;1>01,0>11").rows(), 0);
        due("1680 times 1680", Check.made("p3,p3,p3,p1,r1!;3>03,3>13,3>23").rows(), 822394);
    }

    private static void reach() {
        doc.edge("## Promise 18: reach `int reach(int what)`: 0 REACH, 1 FAR, 2 DEAD (without PANELS 1, 0, 1).");
        SecretBox none = new SecretBox();
        int[] without = {1, 0, 1};
        SecretBox trap = Check.made("p1,p1!;1>00,0<11");
        int[] ofTrap = {4, 2, 1};
        SecretBox stuck = Check.made("p1,p1!;1>01,0>11");
        int[] ofStuck = {1, 0, 1};
        for (int what = 0; what <= 2; what++) {
            due("reach(" + what + ") without panels", none.reach(what), without[what]);
            due("reach(" + what + ") of a trap", trap.reach(what), ofTrap[what]);
            due("reach(" + what + ") where nothing may be done", stuck.reach(what), ofStuck[what]);
        }

        doc.edge("BAD.");
        range("reach(v)", "p1", (y, v) -> y.reach(v), 0, 2);
        range("reach(v) without panels", "", (y, v) -> y.reach(v), 0, 2);
    }

    private static void key() {
        doc.edge("## Promise 19: key `int key(int what)`: KEY: the LOCK (what 0), how many SLIDES (1); NONE.");
        SecretBox x = Check.made("p1,p1,p3!;0>11,2>01");
        due("which", x.key(0), 1);
        due("how many", x.key(1), 3);
        for (int what = 0; what <= 1; what++) {
            due("without locks", Check.made("p1").key(what), NONE);
            due("without panels", new SecretBox().key(what), NONE);
            due("by none", Check.made("p1!,p1;0>11,0>11,1>01,1>01").key(what), NONE);
        }

        doc.edge("BAD.");
        range("key(v)", "p1,p1;0>11", (y, v) -> y.key(v), 0, 1);
        range("key(v) without panels", "", (y, v) -> y.key(v), 0, 1);
    }

    private static void files() {
        doc.edge("## Promise 20: files `int files(int n, int what)`: FILES: how many (what 0), which (1); NONE.");
        SecretBox x = Check.made("p1!,p1;0<10,0<10,0<10,0<10,0>11,0>11");
        int[] many = {NONE, 2, 0, 0};
        int[] which = {NONE, 48, 0, 0};
        for (int n = 0; n <= 3; n++) {
            due("how many for " + n, x.files(n, 0), many[n]);
            due("which for " + n, x.files(n, 1), which[n]);
        }
        due("without panels", new SecretBox().files(60, 0), NONE);
        due("without panels", new SecretBox().files(0, 1), NONE);

        doc.edge("BAD.");
        range("files(v, 0)", "p1", (y, v) -> y.files(v, 0), 0, 60);
        range("files(v, 1) without panels", "", (y, v) -> y.files(v, 1), 0, 60);
        range("files(1, v)", "p1", (y, v) -> y.files(1, v), 0, 1);
        range("files(1, v) without panels", "", (y, v) -> y.files(1, v), 0, 1);
    }

    private static void game() {
        doc.edge("## Promise 21: game `int game(int what)`: GAME: who wins (what 0), by how many SLIDES (1), the SLIDE (2; NONE).");
        int[][] answers = {{1, 1, 1}, {2, 2, 1}, {0, 0, 1}};
        for (int deep = 1; deep <= 3; deep++) {
            for (int what = 0; what <= 2; what++) due(deep + " deep, " + what, Check.made("p" + deep).game(what), answers[deep - 1][what]);
        }
        SecretBox open = Check.made("p1");
        Check.slides(open, 1);
        SecretBox stuck = Check.made("p1,p1;0>11,1>01");
        int[] over = {2, 0, NONE};
        for (int what = 0; what <= 2; what++) {
            due("open, " + what, open.game(what), over[what]);
            due("stuck, " + what, stuck.game(what), over[what]);
            due("without panels, " + what, new SecretBox().game(what), NONE);
        }

        doc.edge("BAD.");
        range("game(v)", "p1", (y, v) -> y.game(v), 0, 2);
        range("game(v) without panels", "", (y, v) -> y.game(v), 0, 2);
    }

    private static void fumble() {
        doc.edge("## Promise 22: fumble `long fumble(int n, int what)`: FUMBLE: above (what 0), below (1); without PANELS 0 by 1.");
        int[][] above = {{0, 1, 1, 1}, {0, 0, 1, 1}, {0, 0, 0, 1}};
        int[][] below = {{1, 1, 1, 1}, {1, 1, 2, 2}, {1, 1, 1, 4}};
        for (int deep = 1; deep <= 3; deep++) {
            for (int n = 0; n <= 3; n++) {
                due(deep + " deep by " + n + " above", Check.made("p" + deep).fumble(n, 0), above[deep - 1][n]);
                due(deep + " deep by " + n + " below", Check.made("p" + deep).fumble(n, 1), below[deep - 1][n]);
            }
        }
        for (int n = 0; n <= 3; n++) {
            due("without panels by " + n + " above", new SecretBox().fumble(n, 0), 0);
            due("without panels by " + n + " below", new SecretBox().fumble(n, 1), 1);
        }

        doc.edge("BAD.");
        range("fumble(v, 0)", "p1", (y, v) -> y.fumble(v, 0), 0, 3);
        range("fumble(v, 1) without panels", "", (y, v) -> y.fumble(v, 1), 0, 3);
        range("fumble(1, v)", "p1", (y, v) -> y.fumble(1, v), 0, 1);
        range("fumble(0, v) without panels", "", (y, v) -> y.fumble(0, v), 0, 1);
    }

    private static void image() {
        doc.edge("## Promise 23: image `int image()`: All but SHEETS, THE TAPE is kept as an IMAGE (what may be UNDONE, too): 1.");
        SecretBox x = Check.made("p3,s3,l3!;0<11,1>00");
        x.seed(66);
        x.file(0);
        for (int k = 0; k < 3; k++) Check.slides(x, 11, 1, 21);
        x.file(1);
        x.seed(67);
        x.lid(1);
        String before = Check.seen(x);
        x.sheet(1, 1, 11);
        x.type('r');
        due("an image", x.image(), 1);
        due("nothing is changed", Check.seen(x).equals(before) ? 1 : 0, 1);
        x.lid(0);
        x.sheet(1, 2, 12);
        x.type('2');
        due("another box", x.box(), 1);
        x.type('p');
        x.drift(20);
        x.restore();
        due("all of it", Check.seen(x).equals(before) ? 1 : 0, 1);
        due("but the tape", x.type('p'), 2);
        due("but the sheets", x.drop(1), 12);
        for (int k = 7; k >= 0; k--) due("what may be undone", x.undo(), k);
        due("the draw of the first of them", x.seed(0), 66);
        due("where panels were", x.count(7), 0);
        due("which locks were filed", x.count(5), 1);
        due("a later image", x.image(), 1);
        Check.slides(x, 21);
        x.restore();
        due("the later one", x.count(8), 0);
        due("without panels", new SecretBox().image(), 1);
    }

    private static void restore() {
        doc.edge("## Promise 24: restore `int restore()`: All is as it was then: 1.");
        SecretBox x = new SecretBox();
        x.seed(3);
        x.image();
        Check.read(x, "p1,p1;0>11");
        Check.slides(x, 11);
        x.seed(4);
        due("without panels", x.restore(), 1);
        for (int what = 0; what <= 8; what++) due("count(" + what + ")", x.count(what), 0);
        due("the draw", x.seed(5), 3);
        due("once more", x.restore(), 1);
        due("the draw once more", x.seed(5), 3);

        doc.edge("NONE: there is none.");
        due("of a new one", new SecretBox().restore(), NONE);
        SecretBox y = Check.made("p1");
        Check.slides(y, 1);
        due("of a box", y.restore(), NONE);
        due("it stays", y.count(7), 1);
    }

    private static void to() {
        doc.edge("## Promise 25: to `int to(int sheet, int lane, int i, int k)`: TO by as many items of a SHEET as there are PANELS, "
            + "taken as a row of a LANE, from item i on (PLACES): how many (k -1), the k-th SLIDE (NONE: not so many); NONE.");
        SecretBox x = Check.made("p2,p1;1>02");
        for (int lane = 0; lane <= 3; lane++) {
            x.sheet(lane, lane, 24);
            x.item(lane, lane, 21, 9);
            x.item(lane, lane, 22, 1);
            x.item(lane, lane, 23, 1);
            int[] due = {4, 1, 1, 11, 0, NONE, NONE};
            for (int k = -1; k <= 5; k++) due("lane " + lane + ", k " + k, x.to(lane, lane, 22, k), due[k + 1]);
            due("here", x.to(lane, lane, 0, -1), 0);
            due("here", x.to(lane, lane, 0, 0), NONE);
        }
        due("the most", x.to(0, 0, 22, MOST), NONE);
        SecretBox never = Check.made("s1,s1");
        Check.ints(never, 1, 1);
        for (int k = -1; k <= 1; k++) due("never, k " + k, never.to(0, 2, 0, k), NONE);

        doc.edge("BAD: k below -1, no PANELS, too; NULL; CAST; INDEX; NOT: there is no such PLACE.");
        due("k -2", x.to(0, 0, 0, -2), BAD);
        due("k far below", x.to(0, 0, 0, LEAST), BAD);
        range("to(v, 0, 0, -1)", "p1", (y, v) -> y.to(v, 0, 0, -1), 0, 3);
        range("to(0, v, 0, -1)", "p1", (y, v) -> y.to(0, v, 0, -1), 0, 3);
        SecretBox none = new SecretBox();
        none.sheet(0, 0, 5);
        due("no panels", none.to(0, 0, 0, -1), BAD);
        due("nothing", never.to(1, 2, 0, -1), NULL);
        due("another lane", never.to(0, 1, 0, -1), CAST);
        for (int i : new int[] {-1, 23, 24, 25, MOST, LEAST}) due("from " + i, x.to(0, 0, i, -1), INDEX);
        due("from 21", x.to(0, 0, 21, -1), NOT);
        due("from 20: item 21 is too deep for panel 1", x.to(0, 0, 20, -1), NOT);
        int[] places = {NOT, 0, 1, 2, NOT};
        for (int place = -1; place <= 3; place++) {
            x.item(0, 0, 0, place);
            due("place " + place + " of 2", x.to(0, 0, 0, -1), places[place + 1]);
        }
        for (long place : new long[] {1L << 32, -1L << 32, (1L << 32) + 1, Long.MIN_VALUE, Long.MAX_VALUE}) {
            x.item(3, 3, 0, place);
            due("place " + place, x.to(3, 3, 0, -1), NOT);
        }
    }

    private static void clicks() {
        doc.edge("## Promise 26: clicks `int clicks(int panel, int sheet, int lane, int i, int n)`: CLICKS by n pairs, two items each of a "
            + "SHEET likewise: KINDS of a PANEL, LOCKS (panel NONE).");
        SecretBox x = Check.made("p1,p1;0>11");
        for (int lane = 0; lane <= 3; lane++) {
            x.sheet(lane, lane, 24);
            for (int i = 0; i < 8; i++) x.item(lane, lane, i, 99);
            for (int i = 8; i < 24; i += 2) x.item(lane, lane, i, i % 4 == 0 ? 11 : 10);
            for (int i = 9; i < 24; i += 2) x.item(lane, lane, i, 1);
            due("locks by eight pairs to the end", x.clicks(NONE, lane, lane, 8, 8), 65);
            due("kinds of 0 by eight pairs to the end", x.clicks(0, lane, lane, 8, 8), 31);
            due("kinds of 1 by the last pair", x.clicks(1, lane, lane, 22, 1), 0);
        }

        doc.edge("BAD; NULL; CAST; INDEX; NOT: there is no such SLIDE, it is not 0, 1.");
        range("clicks(v, 0, 0, 0, 1)", FIVE, (y, v) -> v == NONE ? BAD : y.clicks(v, 0, 0, 0, 1), 0, 4);
        due("panel -3", x.clicks(-3, 0, 0, 8, 1), BAD);
        due("panel -5", x.clicks(-5, 0, 0, 8, 1), BAD);
        range("clicks(NONE, v, 0, 0, 1)", "p1", (y, v) -> y.clicks(NONE, v, 0, 0, 1), 0, 3);
        range("clicks(NONE, 0, v, 0, 1)", "p1", (y, v) -> y.clicks(NONE, 0, v, 0, 1), 0, 3);
        range("clicks(NONE, 0, 0, 0, v)", "p1", (y, v) -> y.clicks(NONE, 0, 0, 0, v), 1, 8);
        due("another lane", x.clicks(NONE, 0, 1, 8, 1), CAST);
        x.drop(1);
        due("nothing", x.clicks(NONE, 1, 1, 8, 1), NULL);
        for (int i : new int[] {-1, 23, 24, 25, MOST, LEAST}) due("a pair from " + i, x.clicks(NONE, 0, 0, i, 1), INDEX);
        due("eight pairs from 9", x.clicks(NONE, 0, 0, 9, 8), INDEX);
        due("eight pairs from 7", x.clicks(NONE, 0, 0, 7, 8), NOT);
        for (int slide : new int[] {-128, -10, -1, 2, 9, 12, 20, 21, 100, 127}) dueNot(slide, 0);
        for (int done : new int[] {-128, -1, 2, 127}) dueNot(1, done);
        Check.ints(x, 1, 1, 11, 0, 12, 1);
        due("the last of three", x.clicks(NONE, 0, 2, 0, 3), NOT);
        due("it is not asked", x.clicks(NONE, 0, 2, 0, 2), 0);
    }

    private static void dueNot(int slide, int done) {
        SecretBox x = Check.made("p1,p1;0>11");
        Check.ints(x, slide, done);
        due("slide " + slide + " done " + done + ", locks", x.clicks(NONE, 0, 2, 0, 1), NOT);
        due("slide " + slide + " done " + done + ", kinds", x.clicks(1, 0, 2, 0, 1), NOT);
    }

    private static void film() {
        doc.edge("## Promise 27: film `int film(int sheet, int lane, int i)`: PLACES of all PANELS, an item each, come to a SHEET likewise: "
            + "how many.");
        SecretBox x = Check.made("p3,p2,p1,p3,p1");
        Check.slides(x, 1, 1, 1, 11, 31, 31);
        for (int lane = 0; lane <= 3; lane++) {
            x.sheet(lane, lane, 24);
            for (int i = 0; i < 24; i++) x.item(lane, lane, i, 3);
            due("to the last items of lane " + lane, x.film(lane, lane, 19), 5);
            due("they are where all is", x.to(lane, lane, 19, -1), 0);
            due("the item ahead of them stays", x.to(lane, lane, 18, -1), NOT);
        }
        SecretBox one = Check.made("p1");
        Check.ints(one, 1, 0, 1);
        Check.slides(one, 1);
        due("one panel", one.film(0, 2, 1), 1);
        due("the one ahead", one.to(0, 2, 0, -1), 0);
        due("the one", one.to(0, 2, 1, -1), 0);
        due("the one behind", one.to(0, 2, 2, -1), 0);

        doc.edge("BAD (no PANELS, too); NULL; CAST; INDEX.");
        range("film(v, 0, 0)", "p1", (y, v) -> y.film(v, 0, 0), 0, 3);
        range("film(0, v, 0)", "p1", (y, v) -> y.film(0, v, 0), 0, 3);
        SecretBox none = new SecretBox();
        none.sheet(0, 0, 3);
        due("no panels", none.film(0, 0, 0), BAD);
        due("nothing", one.film(1, 0, 0), NULL);
        due("another lane", x.film(0, 1, 0), CAST);
        for (int i : new int[] {-1, 20, 24, 25, MOST, LEAST}) due("to " + i, x.film(0, 0, i), INDEX);
        due("to 0", x.film(0, 0, 0), 5);
    }

    private static void sheet() {
        doc.edge("## Promise 28: sheet `int sheet(int sheet, int lane, int n)`: A SHEET holds a new row of a LANE: n.");
        SecretBox x = Check.made("p3");
        for (int lane = 0; lane <= 3; lane++) {
            due("the most of lane " + lane, x.sheet(lane, lane, 24), 24);
            x.item(lane, lane, 0, 2);
            due("a new one", x.sheet(lane, lane, 1), 1);
            due("of 0", x.to(lane, lane, 0, -1), 0);
            due("of so many", x.item(lane, lane, 1, 1), INDEX);
            due("of another lane", x.sheet(lane, 3 - lane, 2) + x.item(lane, 3 - lane, 1, 1), 3);
            due("none", x.sheet(lane, lane, 0), 0);
        }

        doc.edge("BAD: also n above 24; SIZE: n below 0.");
        range("sheet(v, 0, 0)", "", (y, v) -> y.sheet(v, 0, 0), 0, 3);
        range("sheet(0, v, 0)", "", (y, v) -> y.sheet(0, v, 0), 0, 3);
        due("n 24", x.sheet(0, 0, 24), 24);
        due("n 25", x.sheet(0, 0, 25), BAD);
        due("n far above", x.sheet(0, 0, MOST), BAD);
        due("n -1", x.sheet(0, 0, -1), SIZE);
        due("n far below", x.sheet(0, 0, LEAST), SIZE);
        due("n -1 of no sheet", x.sheet(-1, 0, -1), BAD);
        due("n -1 of no lane", x.sheet(0, -1, -1), BAD);
        due("the row stays", x.drop(0), 24);
    }

    private static void drop() {
        doc.edge("## Promise 29: drop `int drop(int sheet)`: A SHEET holds nothing: how many items it had.");
        SecretBox x = new SecretBox();
        for (int sheet = 0; sheet <= 3; sheet++) {
            int n = 8 * sheet;
            x.sheet(sheet, sheet, n);
            due(n + " items", x.drop(sheet), n);
            due("nothing", x.item(sheet, sheet, 0, 0), NULL);
        }

        doc.edge("BAD; NULL.");
        range("drop(v)", "", (y, v) -> y.drop(v), 0, 3);
        for (int sheet = 0; sheet <= 3; sheet++) due("nothing", x.drop(sheet), NULL);
        for (int sheet = 0; sheet <= 3; sheet++) due("nothing at first", new SecretBox().drop(sheet), NULL);
    }

    private static void item() {
        doc.edge("## Promise 30: item `int item(int sheet, int lane, int i, long v)`: Item i of a SHEET, taken as a row of a LANE, "
            + "becomes v, its lowest bits: 1.");
        SecretBox x = Check.made("p3");
        int[] bits = {8, 16, 32, 64};
        for (int lane = 0; lane <= 3; lane++) {
            x.sheet(lane, lane, 24);
            due("the first of lane " + lane, x.item(lane, lane, 0, 2), 1);
            due("the last of lane " + lane, x.item(lane, lane, 23, 3), 1);
            due("the first", x.to(lane, lane, 0, -1), 2);
            due("the last", x.to(lane, lane, 23, -1), 3);
            for (int bit = 2; bit < 64; bit++) {
                due("bit " + bit, x.item(lane, lane, 5, (1L << bit) + 1), 1);
                due("bit " + bit, x.to(lane, lane, 5, -1), bit >= bits[lane] ? 1 : NOT);
            }
            x.item(lane, lane, 5, Long.MIN_VALUE);
            due("the least", x.to(lane, lane, 5, -1), lane == 3 ? NOT : 0);
            x.item(lane, lane, 5, Long.MAX_VALUE);
            due("the most", x.to(lane, lane, 5, -1), NOT);
            if (lane % 2 == 0) x = Check.made("p3");
        }

        doc.edge("BAD; NULL; CAST; INDEX.");
        range("item(v, 0, 0, 0)", "", (y, v) -> y.item(v, 0, 0, 0), 0, 3);
        range("item(0, v, 0, 0)", "", (y, v) -> y.item(0, v, 0, 0), 0, 3);
        SecretBox y = new SecretBox();
        due("nothing", y.item(0, 0, 0, 0), NULL);
        y.sheet(0, 1, 24);
        for (int lane = 0; lane <= 3; lane++) due("as lane " + lane, y.item(0, lane, 0, 0), lane == 1 ? 1 : CAST);
        for (int i : new int[] {-1, 24, 25, MOST, LEAST}) due("item " + i, y.item(0, 1, i, 0), INDEX);
        y.sheet(0, 1, 0);
        due("item 0 of none", y.item(0, 1, 0, 0), INDEX);
    }

    /** Each item of a SHEET of ints as a PLACE of the one panel: by how many SLIDES it is come to. */
    private static void dueItems(String call, SecretBox x, int sheet, int... items) {
        for (int i = 0; i < items.length; i++) due(call + ": item " + i + " of " + sheet, x.to(sheet, 2, i, -1), items[i]);
    }

    private static SecretBox twoRows() {
        SecretBox x = Check.made("p3");
        Check.ints(x, 0, 1, 2, 3, 0);
        x.sheet(1, 2, 3);
        for (int i = 0; i < 3; i++) x.item(1, 2, i, 3 - i);
        return x;
    }

    private static void copy() {
        doc.edge("## Promise 31: copy `int copy(int from, int i, int to, int j, int n)`: n items of a SHEET from i on come to another one "
            + "(or the same) from j on, as if all were taken ahead: n.");
        SecretBox x = twoRows();
        due("the last two to the first", x.copy(0, 3, 1, 0, 2), 2);
        dueItems("the last two to the first", x, 1, 3, 0, 1);
        due("the first two to the last", x.copy(1, 0, 0, 3, 2), 2);
        dueItems("the first two to the last", x, 0, 0, 1, 2, 3, 0);
        due("all of the shorter", x.copy(1, 0, 0, 1, 3), 3);
        dueItems("all of the shorter", x, 0, 0, 3, 0, 1, 0);
        dueItems("it stays", x, 1, 3, 0, 1);
        x = twoRows();
        due("onward over itself", x.copy(0, 0, 0, 1, 4), 4);
        dueItems("onward over itself", x, 0, 0, 0, 1, 2, 3);
        x = twoRows();
        due("backward over itself", x.copy(0, 1, 0, 0, 4), 4);
        dueItems("backward over itself", x, 0, 1, 2, 3, 0, 0);
        x = twoRows();
        due("all over itself", x.copy(0, 0, 0, 0, 5), 5);
        dueItems("all over itself", x, 0, 0, 1, 2, 3, 0);
        for (int lane = 0; lane <= 3; lane++) {
            x.sheet(2, lane, 24);
            x.sheet(3, lane, 24);
            x.item(2, lane, 0, 1);
            x.item(2, lane, 23, 2);
            due("24 of lane " + lane, x.copy(2, 0, 3, 0, 24), 24);
            due("the first and the last", x.to(3, lane, 0, -1) * 10 + x.to(3, lane, 23, -1), 12);
        }

        doc.edge("BAD; NULL (either); CAST: of unlike LANES; INDEX (n below 0, too; with n 0, too, if i or j is above how many there are).");
        range("copy(v, 0, 0, 0, 0)", "", (y, v) -> y.copy(v, 0, 0, 0, 0), 0, 3);
        range("copy(0, 0, v, 0, 0)", "", (y, v) -> y.copy(0, 0, v, 0, 0), 0, 3);
        SecretBox y = twoRows();
        due("from nothing", y.copy(2, 0, 0, 0, 0), NULL);
        due("to nothing", y.copy(0, 0, 2, 0, 0), NULL);
        due("from nothing to nothing", y.copy(2, 0, 3, 0, 0), NULL);
        for (int lane = 0; lane <= 3; lane++) {
            y.sheet(2, lane, 3);
            due("ints to lane " + lane, y.copy(1, 0, 2, 0, 0), lane == 2 ? 0 : CAST);
            due("ints from lane " + lane, y.copy(2, 0, 1, 0, 3), lane == 2 ? 3 : CAST);
        }
        copyIndex();
    }

    private static void copyIndex() {
        SecretBox y = twoRows();
        for (int n : new int[] {-1, LEAST, 4, 6, MOST}) due("n " + n, y.copy(0, 0, 1, 0, n), INDEX);
        for (int n = 0; n <= 3; n++) due("n " + n, y.copy(0, 5 - n, 1, 3 - n, n), n);
        for (int n = 0; n <= 3; n++) {
            due("n " + n + ", i one more", y.copy(0, 6 - n, 1, 3 - n, n), INDEX);
            due("n " + n + ", j one more", y.copy(0, 5 - n, 1, 4 - n, n), INDEX);
            due("n " + n + ", i -1", y.copy(0, -1, 1, 0, n), INDEX);
            due("n " + n + ", j -1", y.copy(0, 0, 1, -1, n), INDEX);
            due("n " + n + ", i far above", y.copy(0, MOST, 1, 0, n), INDEX);
            due("n " + n + ", j far above", y.copy(0, 0, 1, MOST, n), INDEX);
            due("n " + n + ", i far below", y.copy(0, LEAST, 1, 0, n), INDEX);
            due("n " + n + ", j far below", y.copy(0, 0, 1, LEAST, n), INDEX);
        }
        due("i and n far above", y.copy(0, MOST, 1, 0, MOST), INDEX);
        due("j and n far above", y.copy(0, 0, 1, MOST, MOST), INDEX);
        due("n -1, i 1", y.copy(0, 1, 1, 1, -1), INDEX);
    }
}
