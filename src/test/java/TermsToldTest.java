/** The document's "Terms", part 3 and what the interface says, sentence by sentence: clicks, undone, drifts, texts, sheets. */
public final class TermsToldTest {
    private static final int BAD = SecretBox.BAD, NOT = SecretBox.NOT, NONE = SecretBox.NONE;
    private static final int NULL = SecretBox.NULL, INDEX = SecretBox.INDEX;
    private static final Check check = new Check("TermsToldTest");
    private static final Reading doc = new Reading(check, "==== 3 CLICKS", "## Promise 1:");

    public static void main(String[] args) {
        clicks();
        clicksOfKinds();
        clicksOfLocks();
        undone();
        nothingToBeUndone();
        drifts();
        textsOfPanels();
        textsOfLocks();
        inPlaceOfAll();
        faults();
        blanks();
        interfaceSays();
        sheets();
        doc.end();
        check.end();
    }

    private static void due(String call, long got, long want) {
        check.due(call, got, want);
    }

    private static int clicks(SecretBox x, int panel, int... pairs) {
        Check.ints(x, pairs);
        return x.clicks(panel, 0, 2, 0, pairs.length / 2);
    }

    private static void clicks() {
        doc.edge("==== 3 CLICKS: a row tells n pairs (1 .. 8):");
        SecretBox x = Check.made("p1");
        x.sheet(1, 0, 18);
        for (int i = 0; i < 18; i += 2) {
            x.item(1, 0, i, i / 2 % 2 == 0 ? 1 : 0);
            x.item(1, 0, i + 1, 1);
        }
        due("n -1", x.clicks(0, 1, 0, 0, -1), BAD);
        due("n 0", x.clicks(0, 1, 0, 0, 0), BAD);
        due("n 9", x.clicks(0, 1, 0, 0, 9), BAD);
        due("n far above", x.clicks(0, 1, 0, 0, Integer.MAX_VALUE), BAD);
        due("n far below", x.clicks(0, 1, 0, 0, Integer.MIN_VALUE), BAD);
        for (int n = 1; n <= 8; n++) due("n " + n, x.clicks(NONE, 1, 0, 0, n), 64);
        x.item(1, 0, 15, 0);
        due("the eighth counts", x.clicks(NONE, 1, 0, 0, 8), 0);
        due("it is not asked", x.clicks(NONE, 1, 0, 0, 7), 64);

        doc.edge("a SLIDE that was tried, whether it was done (1) or could not be (0), one behind the other from now on:");
        due("done", clicks(x, NONE, 1, 1), 64);
        due("could not be, though it may", clicks(x, NONE, 1, 0), 0);
        due("could not be", clicks(x, NONE, 0, 0), 64);
        due("done, though it may not", clicks(x, NONE, 0, 1), 0);
        due("behind the other", clicks(x, NONE, 1, 1, 1, 0, 0, 1, 0, 0), 64);
        due("what could not be does nothing", clicks(x, NONE, 0, 0, 1, 1), 64);
        Check.slides(x, 1);
        due("from now on", clicks(x, NONE, 1, 0, 0, 1), 64);
        due("neither 1 nor 0", clicks(x, NONE, 1, 2), NOT);
        due("neither 1 nor 0", clicks(x, NONE, 1, -1), NOT);
        due("others slip behind what is done", clicks(Check.made("s1,p1"), NONE, 1, 1, 11, 1, 0, 0), 64);
        due("others stay behind what could not be", clicks(Check.made("s1,p1"), NONE, 1, 1, 10, 0, 0, 1), 64);
    }

    private static void clicksOfKinds() {
        doc.edge("KINDS (a set) of a PANEL by which it would be so;");
        SecretBox x = Check.made("p1,p2,p1");
        due("by all", clicks(x, 1, 1, 1), 31);
        due("by none", clicks(x, 1, 1, 0), 0);
        due("by plain, ring, bolt: it stays", clicks(x, 0, 1, 1, 11, 1, 0, 1), 1 + 4 + 8 + 16);
        due("by sprung: it slips", clicks(x, 0, 1, 1, 11, 1, 0, 0), 2);
        due("by sprung, latch: it slips from 1 of 2", clicks(x, 1, 11, 1, 1, 1, 10, 0), 2 + 8);
        due("by ring, bolt: it may not", clicks(x, 1, 11, 0), 4 + 16);
        due("by ring: it may not go in again", clicks(x, 1, 1, 1, 11, 1, 0, 1, 10, 0), 2 + 4 + 8);
        due("by bolt: it may go in, not out", clicks(x, 1, 11, 0, 1, 1, 11, 1, 0, 1, 10, 1, 11, 0), 16);
        due("it is still plain", x.of(1, 0), 0);
        due("so as it is: no 64 more of kinds", clicks(x, 1, 11, 1), 1 + 2 + 8);
        SecretBox other = Check.made("p1,r1");
        due("of the panel that is asked", clicks(other, 0, 11, 0), 31);
        due("of the panel that is asked", clicks(other, 1, 11, 0), 4 + 16);
    }

    private static void clicksOfLocks() {
        doc.edge("LOCKS (a set), one of which, were it alone FILED (or not, if it is), would make it so;");
        SecretBox x = Check.made("p1,p1,p1;0>11,1>21,0<21");
        due("the first filed", clicks(x, NONE, 1, 1), 1);
        due("the second filed", clicks(x, NONE, 11, 1, 1, 1), 2);
        due("the third filed", clicks(x, NONE, 21, 1, 11, 1, 20, 1, 1, 1, 0, 1), 4);
        due("two would be needed", clicks(x, NONE, 1, 1, 0, 1), 0);
        x.file(0);
        due("the first, were it not filed", clicks(x, NONE, 1, 0), 1);
        due("the third, the first is filed on", clicks(x, NONE, 1, 1, 0, 1), 4);
        x.file(2);
        due("two are filed, one of them were not", clicks(x, NONE, 1, 1, 0, 0), 4);
        SecretBox six = Check.made("p1,p1;0<10,0<10,0<10,0<10,0<10,0>11");
        due("the sixth", clicks(six, NONE, 1, 1), 32);
        due("none of none", clicks(Check.made("p1"), NONE, 1, 0), 0);

        doc.edge("64 more, if it is so as it is.");
        due("so as it is", clicks(six, NONE, 1, 0), 64 + 31);
        due("so as it is, by all", clicks(six, NONE, 11, 1), 64 + 63);
        due("so as it is, of no locks", clicks(Check.made("p1"), NONE, 1, 1), 64);
        due("so as it is, by none", clicks(Check.made("p1,p1;0>11"), NONE, 1, 0), 64);
        due("as it is filed", clicks(x, NONE, 1, 1, 0, 1), 64 + 2);
    }

    private static void undone() {
        doc.edge("UNDONE: the latest SLIDE, SHUT, FILED, time of a DRIFT is as it had not been");
        SecretBox x = Check.made("p3,p3;1>01");
        Check.slides(x, 1);
        x.file(0);
        x.shut();
        x.drift(2);
        due("known", x.count(8), 5);
        due("a time of a drift", x.undo(), 4);
        due("another one", x.undo(), 3);
        due("behind both", x.count(7) * 10 + x.count(5), 1);
        due("shut", x.undo(), 2);
        due("not shut", x.count(7) * 10 + x.count(5), 11);
        due("filed", x.undo(), 1);
        due("not filed", x.count(7) * 10 + x.count(5), 10);
        due("a slide", x.undo(), 0);
        due("not slid", x.count(7), 0);
        due("none", x.undo(), NONE);
        SecretBox still = Check.made("p1,p1;0=11,1=01");
        still.drift(1);
        due("a time by which nothing slid", still.count(8), 1);
        due("it is undone", still.undo() + still.seed(7), 1);

        doc.edge("(8 are known, older ones lost):");
        SecretBox many = Check.made("p3,p3,p3");
        for (int k = 0; k < 9; k++) {
            Check.slides(many, 10 * (k / 3) + 1);
            due("known behind " + (k + 1), many.count(8), Math.min(8, k + 1));
        }
        for (int k = 7; k >= 0; k--) due("undone", many.undo(), k);
        due("but for the oldest", many.count(7), 1);
        due("the oldest is lost", many.undo(), NONE);
        due("it stays", many.count(7), 1);
        Check.slides(many, 1, 1, 0, 0, 1, 1, 0, 0, 11);
        for (int k = 7; k >= 0; k--) due("undone once more round", many.undo(), k);
        due("but for the first of nine", many.count(7), 2);
        many.drift(40);
        due("of forty times", many.count(8), 8);

        doc.edge("where PANELS are, which LOCKS are FILED, THE DRAW are as ahead of it, whatever was told since;");
        asAheadOfIt();
    }

    private static void asAheadOfIt() {
        SecretBox x = Check.made("p3,p3,s1;1>01");
        x.seed(50);
        Check.slides(x, 21);
        x.seed(60);
        Check.slides(x, 1);
        due("it slipped", x.count(7), 1);
        x.seed(70);
        due("another lid", x.lid(1), 0);
        x.sheet(0, 2, 3);
        x.type('p');
        x.image();
        due("undone", x.undo(), 1);
        due("where panels were", x.count(7), 16);
        due("the draw as ahead of it", x.seed(80), 60);
        due("undone", x.undo(), 0);
        due("the draw as ahead of it", x.seed(90), 50);
        due("the lid stays", x.count(2), 1);
        due("the sheet stays", x.drop(0), 3);
        due("the tape stays", x.type('1'), 2);
        due("the image stays", x.restore(), 1);
        due("the image stays", x.count(7) * 10 + x.count(8), 12);
        x.file(0);
        x.seed(5);
        x.undo();
        due("not filed", x.count(5), 0);
        due("the draw of a file", x.seed(6), 70);
        x.drift(1);
        due("a drift draws", x.seed(7), (6L * 1103515245 + 12345) % (1L << 31));
        x.undo();
        due("it is as it had not been", x.seed(8), 6);
    }

    private static void nothingToBeUndone() {
        doc.edge("a BOX, a new PANEL, LOCK leave nothing to be UNDONE.");
        SecretBox x = Check.made("p1,p1");
        Check.slides(x, 1);
        x.panel(0, 1);
        due("a new panel", x.count(8), 0);
        due("a new panel", x.undo(), NONE);
        Check.slides(x, 11);
        x.lock(0, 0, 1, 1);
        due("a new lock", x.count(8), 0);
        due("a new lock", x.undo(), NONE);
        due("all stay where they are", x.count(7), 5);
        Check.slides(x, 21);
        clicks(x, 0, 20, 1);
        Check.read(x, "p2");
        due("a box", x.count(8), 0);
        due("a box", x.undo(), NONE);
        Check.slides(x, 1);
        Check.read(x, "p2,");
        x.panel(5, 1);
        x.lock(0, 0, 0, 1);
        due("what is refused leaves it", x.undo(), 0);
        Check.slides(x, 1);
        x.lid(0);
        x.seed(4);
        due("a lid, a seed leave it", x.count(8), 1);
        due("once more", x.undo(), 0);
        due("anew from the start", Check.slides(x, 1, 1) * 10 + x.count(8), 22);
    }

    private static long drawBehind(long draw) {
        return (draw * 1103515245L + 12345L) % (1L << 31);
    }

    private static void drifts() {
        doc.edge("DRIFT by a seed: THE DRAW is a number of 31 bits (1 at first);");
        SecretBox x = new SecretBox();
        due("at first", x.seed(Integer.MAX_VALUE), 1);
        due("31 bits", x.seed(-1), BAD);
        due("31 bits", x.seed(0), Integer.MAX_VALUE);
        due("none of them", x.seed(1), 0);

        doc.edge("each time it becomes the lowest 31 bits of itself times 1103515245 and 12345 more:");
        for (int seed : new int[] {0, 1, 2, 3, 65536, 1103515245, 0x40000000, Integer.MAX_VALUE - 1, Integer.MAX_VALUE}) {
            SecretBox y = Check.made("p3,p3,p3");
            y.seed(seed);
            y.drift(1);
            due("once by " + seed, y.seed(seed), drawBehind(seed));
            y.drift(3);
            due("thrice by " + seed, y.seed(0), drawBehind(drawBehind(drawBehind(seed))));
        }

        doc.edge("the PANEL that is it by 65536, left over by how many there are, SLIDES the way that is it by 128, left over by 2, "
            + "if it MAY (nothing without PANELS).");
        driftsLeftOver();
        SecretBox none = new SecretBox();
        due("without panels", none.drift(40), 0);
        due("without panels the draw is drawn", none.seed(0) == 1 ? 1 : 0, 0);
        SecretBox may = Check.made("p1,p1;0>11");
        for (int k = 0; k < 50; k++) {
            may.seed(k);
            long draw = drawBehind(k);
            int slide = (int) (10 * (draw / 65536 % 2) + draw / 128 % 2);
            int want = slide == 11 ? 4 : 0;
            due("by " + k + " if it may", may.drift(1), want);
            may.undo();
        }
    }

    private static void driftsLeftOver() {
        String[] texts = {"p3", "p3,p3", "p3,p3,p3", "p3,p3,p3,p3", "p3,p3,p3,p3,p3"};
        for (int panels = 1; panels <= 5; panels++) {
            SecretBox x = Check.made(texts[panels - 1]);
            int[] places = new int[5];
            long draw = 1;
            for (int time = 0; time < 120; time++) {
                draw = drawBehind(draw);
                int p = (int) (draw / 65536 % panels);
                int place = places[p] + (draw / 128 % 2 == 1 ? 1 : -1);
                if (place >= 0 && place <= 3) places[p] = place;
                int state = places[0] + 4 * places[1] + 16 * places[2] + 64 * places[3] + 256 * places[4];
                due("time " + time + " of " + panels + " panels", x.drift(1), state);
            }
        }
    }

    private static void dueBox(String text, int want) {
        due("\"" + text + "\"", Check.read(Check.made("l3,b2!;0>11"), text), want);
    }

    private static void textsOfPanels() {
        doc.edge("A BOX is a TEXT: 1 to 5 PANELS with , between:");
        dueBox("", -20);
        dueBox("p1", 1);
        dueBox("p1,p1", 2);
        dueBox("p1,p1,p1,p1,p1", 5);
        dueBox("p1,p1,p1,p1,p1,p1", -34);
        dueBox("p1,", -23);
        dueBox(",p1", -20);
        dueBox("p1,,p1", -23);
        dueBox("p1p1", -22);

        doc.edge("p s r l b (PLAIN, SPRUNG, RING, LATCH, BOLT), a digit 1 .. 3 (DEEP),");
        SecretBox x = Check.made("p1,s2,r3,l1,b3");
        int[] deeps = {1, 2, 3, 1, 3};
        for (int p = 0; p < 5; p++) due("panel " + p, x.of(p, 0) * 10 + x.of(p, 1), 10 * p + deeps[p]);
        for (char kind : new char[] {'a', 'q', 'P', 'S', '1', '!', ';', '~'}) dueBox(kind + "1", -20);
        for (char deep : new char[] {'0', '4', '9', '!', 'p', '/', ':'}) dueBox("p" + deep, -21);
        dueBox("p11", -22);

        doc.edge("perhaps ! (THE LID; else 0; on one alone);");
        for (int lid = 0; lid < 5; lid++) {
            StringBuilder text = new StringBuilder();
            for (int p = 0; p < 5; p++) text.append(p == 0 ? "p1" : ",p1").append(p == lid ? "!" : "");
            due("the lid of " + text, Check.made(text.toString()).count(2), lid);
        }
        due("else 0", Check.made("p1,p1,p1").count(2), 0);
        SecretBox other = Check.made("p1,p1!");
        Check.read(other, "p1,p1");
        due("else 0, whichever it was", other.count(2), 0);
        dueBox("p1!!", -23);
        dueBox("p1!,p1!", -26);
        dueBox("p1,p1!,p1,p1,p1!", -35);
        dueBox("!", -20);
        dueBox("p!1", -21);
    }

    private static void textsOfLocks() {
        doc.edge("then perhaps ; and 1 to 6 LOCKS with , between:");
        dueBox("p1,p1;", -26);
        due("none", Check.made("p1,p1").count(1), 0);
        StringBuilder text = new StringBuilder("p1,p1;0<10");
        for (int locks = 1; locks <= 6; locks++) {
            SecretBox x = Check.made(text.toString());
            due(locks + " locks", x.count(0) * 10 + x.count(1), 20 + locks);
            text.append(",0<10");
        }
        dueBox(text.toString(), -55);
        dueBox("p1,p1;0<10,", -31);
        dueBox("p1,p1;,0<10", -26);
        dueBox("p1,p1;0<10;0<10", -30);
        dueBox("p1,p1,;0<10", -26);
        dueBox("p1;", -23);

        doc.edge("a digit (a PANEL there is), one of < > = (IN, OUT, both), a digit (another PANEL there is),");
        dueBox("p1,p1;2<01", -26);
        dueBox("p1,p1;1<01", 2);
        dueBox("p1,p1;0-11", -27);
        dueBox("p1,p1;0:11", -27);
        dueBox("p1,p1;0<21", -28);
        dueBox("p1,p1;0<01", -28);
        dueBox("p1,p1;1>11", -28);
        dueBox("p1,p1,p1,p1,p1;5<00", -35);
        dueBox("p1,p1,p1,p1,p1;4<50", -37);
        dueBox("p1,p1,p1,p1,p1;4<30", 5);
        dueBox("p1;0<00", -25);
        dueBox("p1,p1;0", -27);
        dueBox("p1,p1;0,", -27);
        dueBox("p1,p1;0<", -28);
        dueBox("p1,p1;0<,", -28);
        dueBox("p1;1<00", -23);
        SecretBox x = Check.made("p1,p1;0<11,0>11,0=11");
        for (int l = 0; l < 3; l++) due("way of " + l, x.at(l, 1), l);

        doc.edge("then one digit or more, rising, 0 to how DEEP that is (PLACES):");
        dueBox("p1,p3;0<1", -29);
        dueBox("p1,p3;0<1,", -29);
        dueBox("p1,p3;0<10123", 2);
        dueBox("p1,p3;0<14", -29);
        dueBox("p1,p3;0<101234", -33);
        dueBox("p1,p3;0<111", -30);
        dueBox("p1,p3;0<121", -30);
        dueBox("p1,p3;0<100", -30);
        dueBox("p1,p1;0<12", -29);
        dueBox("p1,p1;0<1012", -31);
        dueBox("p3,p2;0<13", -29);
        dueBox("p3,p2;1<03", 2);
        SecretBox y = Check.made("p1,p3,p2;0<10,0<13,0<10123,0<20,0<22,0<2012");
        int[] sets = {1, 8, 15, 1, 4, 7};
        for (int l = 0; l < 6; l++) due("places of " + l, y.at(l, 3), sets[l]);
    }

    private static void inPlaceOfAll() {
        doc.edge("in place of all; all IN, no LOCK FILED (THE DRAW, the IMAGE, SHEETS stay).");
        SecretBox x = Check.made("p3,p3,p3!;0<10,1<00");
        x.seed(4000);
        Check.slides(x, 1, 21, 21, 21);
        x.file(0);
        x.image();
        x.sheet(0, 2, 0);
        x.sheet(3, 1, 24);
        due("fewer panels", Check.read(x, "p3,p3;0<10"), 2);
        due("panels", x.count(0), 2);
        due("locks", x.count(1), 1);
        due("the lid", x.count(2), 0);
        due("not open", x.count(3), 0);
        due("all in", x.count(4) + x.count(7), 0);
        due("none filed", x.count(5), 0);
        due("nothing to be undone", x.count(8), 0);
        due("the draw stays", x.seed(4001), 4000);
        due("an empty sheet stays", x.drop(0), 0);
        due("a full sheet stays", x.drop(3), 24);
        due("no sheet stays none", x.drop(1), NULL);
        due("the image stays", x.restore(), 1);
        due("the image as it was", x.count(7) * 10 + x.count(5), 491);
        due("the image keeps the draw", x.seed(0), 4000);
        due("no image stays none", Check.made("p1").restore(), NONE);
        inPlaceOfWhatWasTried();
    }

    /** KINDS that were tried ahead of a BOX leave nothing in it. */
    private static void inPlaceOfWhatWasTried() {
        SecretBox x = Check.made("p3,p3,p3!;0<10,1<00");
        Check.slides(x, 1, 21, 21, 21);
        x.file(1);
        due("kinds", clicks(x, 1, 21, 0), 31);
        x.seed(4000);
        Check.read(x, "l1,l1,l1;1<01");
        due("all in", x.count(4) + x.count(7), 0);
        due("none filed", x.count(5), 0);
        due("locks", x.count(1), 1);
        due("the lid", x.count(2), 0);
        due("nothing to be undone", x.count(8), 0);
        due("the kind", x.of(1, 0), 3);
        due("the draw stays", x.seed(1), 4000);
    }

    private static void faults() {
        doc.edge("FAULTS: -20 less the place of the first letter (behind blanks) that can't stand there (the end: how many there are);");
        dueBox("", -20);
        dueBox("x", -20);
        dueBox(" x", -21);
        dueBox("p x", -22);
        dueBox("p1   x", -25);
        dueBox("p", -21);
        dueBox("p ", -22);
        dueBox("p1,", -23);
        dueBox("p1,  ", -25);
        dueBox("xyz", -20);
        dueBox("p1,p1;0<10 x x", -31);
        dueBox("p1,p1;0<1 2", -30);
        SecretBox x = new SecretBox();
        for (int k = 0; k < 89; k++) x.type(' ');
        x.type('p');
        due("the end behind 90", x.box(), -110);
        for (int k = 0; k < 89; k++) x.type(' ');
        x.type('x');
        due("the last of 90", x.box(), -109);
        for (int k = 0; k < 90; k++) x.type(' ');
        due("90 blanks", x.box(), -110);
        due("empty then", x.box(), -20);
    }

    private static void blanks() {
        doc.edge("blanks count for nothing.");
        dueBox(" p 1 , p 1 ! ; 0 < 1 0 1 ", 2);
        dueBox("p1 !", 1);
        dueBox("p1 ! !", -25);
        dueBox("   p1", 1);
        SecretBox x = Check.made("  p  1 ,  s 3 ! ; 0  < 1 0  2 3 , 1 = 0  1  ");
        due("panels", x.count(0), 2);
        due("the lid", x.count(2), 1);
        due("places", x.at(0, 3), 1 + 4 + 8);
        due("way", x.at(1, 1), 2);
    }

    private static void interfaceSays() {
        doc.noEdge("Ahead of the calls `panel`, `lock`, `lid`, `of`, `at`, `type`, `box`, `count` the interface says: ---- 1 panels, locks.");
        doc.noEdge("Ahead of the calls `slide`, `shut`, `file`, `drift`, `undo`, `seed` the interface says: ---- what is done.");
        doc.edge("Ahead of the calls `opens`, `rows`, `reach`, `key`, `files`, `game`, `fumble`, `image`, `restore` the interface says: "
            + "---- 2 foretold (without PANELS: NONE, but as told).");
        SecretBox x = new SecretBox();
        for (int k = -1; k <= 1; k++) due("opens(" + k + ")", x.opens(k), NONE);
        for (int what = 0; what <= 1; what++) {
            due("key(" + what + ")", x.key(what), NONE);
            due("files(0, " + what + ")", x.files(0, what), NONE);
            due("files(60, " + what + ")", x.files(60, what), NONE);
        }
        for (int what = 0; what <= 2; what++) due("game(" + what + ")", x.game(what), NONE);
        due("as told: rows()", x.rows(), 0);
        due("as told: reach(0)", x.reach(0), 1);
        due("as told: reach(1)", x.reach(1), 0);
        due("as told: reach(2)", x.reach(2), 1);
        for (int n = 0; n <= 3; n++) {
            due("as told: fumble(" + n + ", 0)", x.fumble(n, 0), 0);
            due("as told: fumble(" + n + ", 1)", x.fumble(n, 1), 1);
        }
        due("as told: restore()", x.restore(), NONE);
        due("as told: image()", x.image(), 1);
        due("as told: restore()", x.restore(), 1);
        due("no panels came", x.count(0), 0);
    }

    private static void sheets() {
        doc.edge("Ahead of the calls `to`, `clicks`, `film`, `sheet`, `drop`, `item`, `copy` the interface says: ---- 3 sheets 0 .. 3: "
            + "nothing (at first), or a row of a LANE:");
        SecretBox x = new SecretBox();
        for (int sheet = 0; sheet <= 3; sheet++) due("nothing at first: " + sheet, x.drop(sheet), NULL);
        Edges.range(check, "drop(v)", "", (y, v) -> y.drop(v), 0, 3);
        Edges.range(check, "sheet(v, 0, 1)", "", (y, v) -> y.sheet(v, 0, 1), 0, 3);
        for (int sheet = 0; sheet <= 3; sheet++) due("a row: " + sheet, x.sheet(sheet, sheet, sheet + 1), sheet + 1);
        for (int sheet = 0; sheet <= 3; sheet++) due("each of its own: " + sheet, x.drop(sheet), sheet + 1);

        doc.edge("0 bytes, 1 shorts, 2 ints, 3 longs (all with a sign),");
        Edges.range(check, "sheet(0, v, 1)", "", (y, v) -> y.sheet(0, v, 1), 0, 3);
        int[] bits = {8, 16, 32, 64};
        for (int lane = 0; lane <= 3; lane++) {
            dueItem(lane, 1L << bits[lane] - 1, NOT);
            dueItem(lane, (1L << bits[lane] - 1) + 1, NOT);
            dueItem(lane, (1L << bits[lane] - 2) + 1, NOT);
            if (lane < 3) dueItem(lane, (1L << bits[lane]) + 1, 1);
            if (lane < 3) dueItem(lane, 1L << bits[lane], 0);
            dueItem(lane, -1, NOT);
            dueItem(lane, 3, 3);
        }

        doc.edge("of 0 to 24 items.");
        Edges.range(check, "sheet(0, 0, v)", "", (y, v) -> v < 0 ? BAD : y.sheet(0, 0, v), 0, 24);
        SecretBox empty = new SecretBox();
        due("none", empty.sheet(0, 3, 0), 0);
        due("no item 0 of none", empty.item(0, 3, 0, 1), INDEX);
        due("24", empty.sheet(0, 3, 24), 24);
        due("item 23 of 24", empty.item(0, 3, 23, 1), 1);
        due("no item 24 of 24", empty.item(0, 3, 24, 1), INDEX);
    }

    /** Item v as a PLACE of one panel that is three deep: by how many SLIDES it is come to. */
    private static void dueItem(int lane, long v, int want) {
        SecretBox x = Check.made("p3");
        x.sheet(0, lane, 1);
        x.item(0, lane, 0, v);
        due("lane " + lane + " of " + v, x.to(0, lane, 0, -1), want);
    }
}
