import java.util.function.ToLongFunction;

/** The document's "Terms" up to part 2, sentence by sentence: the answers below 0, panels, locks, slides. */
public final class TermsOfPanelsTest {
    private static final int BAD = SecretBox.BAD, NOT = SecretBox.NOT, FULL = SecretBox.FULL, NONE = SecretBox.NONE;
    private static final int NULL = SecretBox.NULL, CAST = SecretBox.CAST, INDEX = SecretBox.INDEX, SIZE = SecretBox.SIZE;
    private static final Check check = new Check("TermsOfPanelsTest");
    private static final Reading doc = new Reading(check, "## Terms", "==== 2 FORETOLD");

    public static void main(String[] args) {
        answersBelow0();
        theMachine();
        refusals();
        bitsAndCuts();
        panelsAsTheyCome();
        theLid();
        locksAsTheyCome();
        slides();
        kinds();
        othersBehindASlide();
        shutAndFiled();
        doc.end();
        check.end();
    }

    private static void due(String call, long got, long want) {
        check.due(call, got, want);
    }

    private static void answersBelow0() {
        doc.edge("## Terms Answers below 0, of several BAD ahead of all others,");
        badAheadOfFull();
        badAheadOfNone();
        badAheadOfTheMachine();
        badAheadOfSize();
        doc.edge("then the first that a call names:");
        firstNamed();
        doc.edge("BAD -1 (a number is not as told, there is no such thing), NOT -2 (as told), FULL -3, NONE -4 (as told), "
            + "CAST -12 (of SHEETS another LANE); what the machine finds: NULL -11, INDEX -13, SIZE -14");
        eachAnswer();
    }

    private static void badAheadOfFull() {
        SecretBox x = Check.made("p1,p1,p1,p1,p1;0>10,0>10,0>10,0>10,0>10,0>10");
        due("a sixth panel of no kind", x.panel(5, 1), BAD);
        due("a sixth panel, 4 deep", x.panel(0, 4), BAD);
        due("a sixth panel", x.panel(0, 1), FULL);
        due("a seventh lock on the same", x.lock(1, 0, 1, 1), BAD);
        due("a seventh lock of no way", x.lock(0, 3, 1, 1), BAD);
        due("a seventh lock of no place", x.lock(0, 0, 1, 0), BAD);
        due("a seventh lock on no panel", x.lock(5, 0, 1, 1), BAD);
        due("a seventh lock by no panel", x.lock(0, 0, 5, 1), BAD);
        due("a seventh lock", x.lock(0, 0, 1, 1), FULL);
        for (int k = 0; k < 90; k++) x.type(' ');
        due("no 91st letter, and none that is one", x.type(127), BAD);
        due("a 91st letter", x.type('p'), FULL);
    }

    private static void badAheadOfNone() {
        SecretBox x = new SecretBox();
        due("opens(-2)", x.opens(-2), BAD);
        due("key(2)", x.key(2), BAD);
        due("files(61, 0)", x.files(61, 0), BAD);
        due("files(0, 2)", x.files(0, 2), BAD);
        due("game(3)", x.game(3), BAD);
    }

    private static void badAheadOfTheMachine() {
        SecretBox x = Check.made("p1,p1");
        due("to by nothing", x.to(1, 0, -1, -2), BAD);
        due("clicks of nothing", x.clicks(2, 1, 0, -1, 1), BAD);
        due("clicks of nothing", x.clicks(0, 1, 0, -1, 9), BAD);
        due("film to nothing", x.film(1, 4, -1), BAD);
        due("item of nothing", x.item(1, 4, -1, 0), BAD);
        due("copy of nothing", x.copy(1, -1, 4, -1, -1), BAD);
        due("copy to nothing", x.copy(-1, -1, 1, -1, -1), BAD);
        Check.ints(x, 9, 9);
        due("to by another lane", x.to(0, 1, 0, -2), BAD);
        due("to by too few items", x.to(0, 2, 1, -2), BAD);
        due("to by no places", x.to(0, 2, 0, -2), BAD);
        due("clicks of another lane", x.clicks(0, 0, 1, 0, 0), BAD);
        due("clicks of too few items", x.clicks(-1, 0, 2, 1, 1), BAD);
        due("clicks of no slide", x.clicks(-1, 0, 2, 0, 1), BAD);
        SecretBox none = new SecretBox();
        due("to without panels by nothing", none.to(0, 2, 0, -1), BAD);
        due("film without panels to nothing", none.film(0, 2, 0), BAD);
        none.sheet(0, 1, 0);
        due("to without panels by another lane", none.to(0, 2, 9, -1), BAD);
        due("film without panels to another lane", none.film(0, 2, 9), BAD);
        due("film without panels to too few items", none.film(0, 1, 1), BAD);
    }

    private static void badAheadOfSize() {
        SecretBox x = new SecretBox();
        due("a fifth sheet of -1", x.sheet(4, 0, -1), BAD);
        due("a fifth lane of -1", x.sheet(0, 4, -1), BAD);
    }

    /** INDEX is named ahead of NOT, where there would be both. */
    private static void firstNamed() {
        SecretBox x = Check.made("p1,p1");
        Check.ints(x, 9, 9);
        due("to by no place, of nothing", x.to(1, 2, 0, -1), NULL);
        due("to by no place, of another lane", x.to(0, 3, 0, -1), CAST);
        due("to by no place, one item too few", x.to(0, 2, 1, -1), INDEX);
        due("to by no place", x.to(0, 2, 0, -1), NOT);
        due("clicks of no slide, of nothing", x.clicks(0, 1, 2, 0, 1), NULL);
        due("clicks of no slide, of another lane", x.clicks(0, 0, 3, 0, 1), CAST);
        due("clicks of no slide, one item too few", x.clicks(0, 0, 2, 1, 1), INDEX);
        due("clicks of no slide, two items too few", x.clicks(0, 0, 2, 0, 2), INDEX);
        due("clicks of no slide", x.clicks(0, 0, 2, 0, 1), NOT);
    }

    private static void eachAnswer() {
        due("BAD", BAD, -1);
        due("NOT", NOT, -2);
        due("FULL", FULL, -3);
        due("NONE", NONE, -4);
        due("NULL", NULL, -11);
        due("CAST", CAST, -12);
        due("INDEX", INDEX, -13);
        due("SIZE", SIZE, -14);
        SecretBox x = Check.made("p1,p1,p1,p1,p1");
        due("a number is not as told", x.count(9), -1);
        due("there is no such thing", x.of(5, 0), -1);
        due("none is out", x.shut(), -2);
        due("five are", x.panel(0, 1), -3);
        due("nothing is known", x.undo(), -4);
        x.sheet(0, 1, 3);
        due("shorts as bytes", x.item(0, 0, 0, 0), -12);
        due("shorts as ints", x.item(0, 2, 0, 0), -12);
        due("nothing", x.drop(1), -11);
        due("item 3 of 3", x.item(0, 1, 3, 0), -13);
        due("a row of -1", x.sheet(0, 1, -1), -14);
    }

    private static void theMachine() {
        doc.edge("(NULL, CAST, INDEX, SIZE in this order;");
        SecretBox x = Check.made("p1");
        x.sheet(0, 2, 3);
        x.sheet(1, 1, 3);
        due("item -1 of nothing", x.item(3, 2, -1, 0), NULL);
        due("item -1 of another lane", x.item(0, 1, -1, 0), CAST);
        due("item 3 of another lane", x.item(0, 3, 3, 0), CAST);
        due("film at -1 of nothing", x.film(3, 2, -1), NULL);
        due("film at 3 of another lane", x.film(0, 1, 3), CAST);
        due("to at -1 of nothing", x.to(3, 2, -1, -1), NULL);
        due("to at 3 of another lane", x.to(0, 1, 3, -1), CAST);
        due("clicks at -1 of nothing", x.clicks(0, 3, 2, -1, 1), NULL);
        due("clicks at 3 of another lane", x.clicks(0, 0, 1, 3, 1), CAST);
        due("copy of nothing, out of both", x.copy(3, -1, 0, 4, 9), NULL);
        due("copy to nothing, out of both", x.copy(0, -1, 3, 4, 9), NULL);
        due("copy of unlike lanes, i below", x.copy(0, -1, 1, 0, 1), CAST);
        due("copy of unlike lanes, j above", x.copy(0, 0, 1, 4, 1), CAST);
        due("copy of unlike lanes, n below", x.copy(1, 0, 0, 0, -1), CAST);
        due("a row of -1 where nothing is", x.sheet(3, 0, -1), SIZE);
        due("a row of -1 where another lane is", x.sheet(0, 1, -1), SIZE);

        doc.edge("INDEX also where no item is taken, if i, j is below 0, or above how many there are).");
        x.sheet(1, 2, 2);
        for (int i = 0; i <= 3; i++) {
            for (int j = 0; j <= 2; j++) due("none from " + i + " to " + j, x.copy(0, i, 1, j, 0), 0);
        }
        for (int beyond : new int[] {-1, 4, Integer.MIN_VALUE, Integer.MAX_VALUE}) {
            due("none from " + beyond, x.copy(0, beyond, 1, 0, 0), INDEX);
            due("none to " + beyond, x.copy(1, 0, 0, beyond, 0), INDEX);
        }
        due("none to 3 of 2", x.copy(0, 0, 1, 3, 0), INDEX);
        due("none from 3 of 2", x.copy(1, 3, 0, 0, 0), INDEX);
        x.sheet(2, 2, 0);
        due("none of an empty row", x.copy(2, 0, 2, 0, 0), 0);
        due("none from 1 of an empty row", x.copy(2, 1, 0, 0, 0), INDEX);
        due("none to 1 of an empty row", x.copy(0, 0, 2, 1, 0), INDEX);
    }

    /** Five panels, six locks, some out, one filed, an image, five things known, a tape of two letters. */
    private static SecretBox rich() {
        SecretBox x = Check.made("p2,s2,r1,p3!,b1;3>01,1=01,4<31,0<31,0<41,1>41");
        x.seed(12345);
        Check.slides(x, 1);
        x.image();
        Check.slides(x, 11, 31);
        x.file(2);
        x.type('p');
        x.type('1');
        return x;
    }

    private static void refused(String call, ToLongFunction<SecretBox> asked, long want) {
        SecretBox x = rich();
        String before = Check.seen(x);
        due(call, asked.applyAsLong(x), want);
        due(call + ": is all as it was", Check.seen(x).equals(before) ? 1 : 0, 1);
        due(call + ": the tape", x.type(','), 3);
        due(call + ": the image", x.restore(), 1);
        due(call + ": the image", x.count(7), 1);
        for (int sheet = 0; sheet < 4; sheet++) due(call + ": sheet " + sheet, x.drop(sheet), NULL);
    }

    private static void refusals() {
        doc.edge("What is refused changes nothing, but as told.");
        refusedMaking();
        refusedDoing();
        refusedForetelling();
        refusedSheets();
        nothingToRefuse();
        aFaultEmptiesTheTape();
    }

    private static void refusedMaking() {
        refused("panel(5, 1)", x -> x.panel(5, 1), BAD);
        refused("panel(0, 1)", x -> x.panel(0, 1), FULL);
        refused("lock(0, 0, 0, 1)", x -> x.lock(0, 0, 0, 1), BAD);
        refused("lock(0, 0, 1, 1)", x -> x.lock(0, 0, 1, 1), FULL);
        refused("lid(5)", x -> x.lid(5), BAD);
        refused("lid(-1)", x -> x.lid(-1), BAD);
        refused("type(31)", x -> x.type(31), BAD);
        refused("type(127)", x -> x.type(127), BAD);
        refused("of(5, 0)", x -> x.of(5, 0), BAD);
        refused("at(6, 0)", x -> x.at(6, 0), BAD);
        refused("count(9)", x -> x.count(9), BAD);
    }

    private static void refusedDoing() {
        refused("slide(5, 1)", x -> x.slide(5, 1), BAD);
        refused("slide(0, 2)", x -> x.slide(0, 2), BAD);
        refused("slide(0, 0)", x -> x.slide(0, 0), NOT);
        refused("slide(2, 0)", x -> x.slide(2, 0), NOT);
        refused("file(6)", x -> x.file(6), BAD);
        refused("file(2)", x -> x.file(2), NOT);
        refused("drift(0)", x -> x.drift(0), BAD);
        refused("drift(41)", x -> x.drift(41), BAD);
        refused("seed(-1)", x -> x.seed(-1), BAD);
    }

    private static void refusedForetelling() {
        refused("opens(-2)", x -> x.opens(-2), BAD);
        refused("reach(3)", x -> x.reach(3), BAD);
        refused("key(2)", x -> x.key(2), BAD);
        refused("files(61, 0)", x -> x.files(61, 0), BAD);
        refused("game(3)", x -> x.game(3), BAD);
        refused("fumble(4, 0)", x -> x.fumble(4, 0), BAD);
        refused("to(0, 2, 0, -2)", x -> x.to(0, 2, 0, -2), BAD);
        refused("to(0, 2, 0, -1)", x -> x.to(0, 2, 0, -1), NULL);
        refused("clicks(5, 0, 2, 0, 1)", x -> x.clicks(5, 0, 2, 0, 1), BAD);
        refused("film(0, 2, 0)", x -> x.film(0, 2, 0), NULL);
        refused("sheet(0, 2, 25)", x -> x.sheet(0, 2, 25), BAD);
        refused("sheet(0, 2, -1)", x -> x.sheet(0, 2, -1), SIZE);
        refused("item(0, 2, 0, 1)", x -> x.item(0, 2, 0, 1), NULL);
        refused("copy(0, 0, 1, 0, 0)", x -> x.copy(0, 0, 1, 0, 0), NULL);
    }

    /** Each item is told by how many SLIDES lead to it as a PLACE of the one panel, which is IN. */
    private static void dueItems(String call, SecretBox x, int sheet, int... items) {
        for (int i = 0; i < items.length; i++) due(call + ": item " + i + " of " + sheet, x.to(sheet, 2, i, -1), items[i]);
        due(call + ": no more items of " + sheet, x.item(sheet, 2, items.length, 0), INDEX);
    }

    private static void refusedRow(String call, ToLongFunction<SecretBox> asked, long want) {
        SecretBox x = Check.made("p3,p3");
        x.sheet(1, 2, 2);
        x.item(1, 2, 1, 2);
        Check.ints(x, 3, 2, 1);
        due(call, asked.applyAsLong(x), want);
        Check.read(x, "p3");
        dueItems(call, x, 0, 3, 2, 1);
        dueItems(call, x, 1, 0, 2);
        due(call, x.drop(2), NULL);
    }

    private static void refusedSheets() {
        refusedRow("sheet(0, 2, -1)", x -> x.sheet(0, 2, -1), SIZE);
        refusedRow("sheet(0, 2, 25)", x -> x.sheet(0, 2, 25), BAD);
        refusedRow("sheet(0, 4, 3)", x -> x.sheet(0, 4, 3), BAD);
        refusedRow("drop(4)", x -> x.drop(4), BAD);
        refusedRow("drop(2)", x -> x.drop(2), NULL);
        refusedRow("item(0, 1, 0, 0)", x -> x.item(0, 1, 0, 0), CAST);
        refusedRow("item(0, 2, 3, 0)", x -> x.item(0, 2, 3, 0), INDEX);
        refusedRow("item(0, 2, -1, 0)", x -> x.item(0, 2, -1, 0), INDEX);
        refusedRow("film(0, 1, 0)", x -> x.film(0, 1, 0), CAST);
        refusedRow("film(0, 2, 2)", x -> x.film(0, 2, 2), INDEX);
        refusedRow("film(1, 2, 1)", x -> x.film(1, 2, 1), INDEX);
        refusedRow("copy(0, 0, 1, 0, 3)", x -> x.copy(0, 0, 1, 0, 3), INDEX);
        refusedRow("copy(0, 1, 0, 0, 3)", x -> x.copy(0, 1, 0, 0, 3), INDEX);
        refusedRow("copy(0, 0, 1, 0, -1)", x -> x.copy(0, 0, 1, 0, -1), INDEX);
        refusedRow("copy(0, 0, 2, 0, 1)", x -> x.copy(0, 0, 2, 0, 1), NULL);
        refusedRow("to(0, 2, 2, -1)", x -> x.to(0, 2, 2, -1), INDEX);
        refusedRow("clicks(0, 0, 2, 0, 1)", x -> x.clicks(0, 0, 2, 0, 1), NOT);
    }

    private static void nothingToRefuse() {
        SecretBox x = Check.made("p1,p1;0>10");
        String before = Check.seen(x);
        due("shut()", x.shut(), NOT);
        due("undo()", x.undo(), NONE);
        due("restore()", x.restore(), NONE);
        due("is all as it was", Check.seen(x).equals(before) ? 1 : 0, 1);
        for (int k = 1; k <= 89; k++) x.type(' ');
        due("letter 90", x.type('p'), 90);
        due("letter 91", x.type('1'), FULL);
        due("the text ends behind letter 90", x.box(), -110);
    }

    private static void aFaultEmptiesTheTape() {
        SecretBox x = rich();
        String before = Check.seen(x);
        x.type('?');
        due("a fault", x.box(), -22);
        due("is all as it was", Check.seen(x).equals(before) ? 1 : 0, 1);
        due("but the tape", x.type('p'), 1);
    }

    private static void bitsAndCuts() {
        doc.edge("Sets are bits.");
        SecretBox x = Check.made("p3,p3,p3,p3,p3;0<10,1<00,2<00,3<00,4<00,4<10");
        due("none is out", x.count(4), 0);
        for (int p = 0; p < 5; p++) {
            Check.slides(x, 10 * p + 1);
            due("0 to " + p + " are out", x.count(4), (1 << p + 1) - 1);
        }
        x.shut();
        Check.slides(x, 41);
        due("4 alone is out", x.count(4), 16);
        due("none is filed", x.count(5), 0);
        due("the last is filed", x.file(5), 32);
        for (int l = 0; l < 5; l++) due("0 to " + l + " are filed, too", x.file(l), 32 + (1 << l + 1) - 1);
        x.lid(4);
        for (int set = 1; set <= 15; set++) {
            SecretBox y = Check.made("p3,p3");
            y.lock(0, 1, 1, set);
            for (int place = 0; place <= 3; place++) {
                due("places " + set + " at " + place, y.of(0, 4), set >> place & 1);
                Check.slides(y, 11);
            }
        }

        doc.edge("What is divided is cut.");
        dueDrift(11, 4);
        dueDrift(25, 4);
        dueDrift(18, 16);
        dueDrift(32, 16);
        dueDrift(37, 1);
        dueDrift(44, 256);
        dueDrift(5, 0);
        dueDrift(24, 0);
    }

    /** By these seeds more than a half is left over both of the draw by 65536 and of it by 128. */
    private static void dueDrift(int seed, int state) {
        SecretBox x = Check.made("p1,p1,p1,p1,p1");
        x.seed(seed);
        due("a drift by " + seed, x.drift(1), state);
    }

    private static void panelsAsTheyCome() {
        doc.edge("==== 1 PANELS 0 .. 4, as they come,");
        SecretBox x = new SecretBox();
        for (int p = 0; p <= 4; p++) due("panel " + p, x.panel(0, 1), p);
        due("no panel 5", x.panel(0, 1), FULL);
        due("no panel 5", x.of(5, 0), BAD);
        due("five", x.count(0), 5);

        doc.edge("are of a KIND, DEEP by 1 .. 3,");
        Edges.range(check, "panel(0, v)", "", (y, v) -> y.panel(0, v), 1, 3);
        Edges.range(check, "panel(v, 1)", "", (y, v) -> y.panel(v, 1), 0, 4);

        doc.edge("are at a PLACE 0 (IN, at first) to DEEP (all OUT);");
        for (int deep = 1; deep <= 3; deep++) {
            SecretBox y = new SecretBox();
            y.panel(0, deep);
            due("in at first", y.of(0, 2), 0);
            due("no place below 0", y.slide(0, 0), NOT);
            for (int place = 1; place <= deep; place++) due("place " + place, y.slide(0, 1), place);
            due("no place above " + deep, y.slide(0, 1), NOT);
            due("all out", y.of(0, 2), deep);
            for (int place = deep - 1; place >= 0; place--) due("place " + place, y.slide(0, 0), place);
            due("no place below 0", y.slide(0, 0), NOT);
        }

        doc.edge("one that is not IN is OUT.");
        SecretBox y = Check.made("p3,r1");
        int[] outs = {0, 1, 1, 1};
        for (int place = 0; place <= 3; place++) {
            due("out at " + place, y.count(4), outs[place]);
            due("out for a ring at " + place, y.of(1, 4), outs[place]);
            Check.slides(y, 1);
        }
        due("one was out", y.shut(), 1);
    }

    private static void theLid() {
        doc.edge("One of them is THE LID (0 at first);");
        SecretBox x = new SecretBox();
        due("ahead of panels", x.count(2), 0);
        for (int p = 0; p < 5; p++) {
            x.panel(0, 1);
            due("behind panel " + p, x.count(2), 0);
        }
        due("the lid was", x.lid(4), 0);
        due("the lid is", x.count(2), 4);
        x.panel(0, 1);
        due("the lid is", x.count(2), 4);

        doc.edge("THE BOX is OPEN, if THE LID is all OUT.");
        SecretBox y = Check.made("p1,p3!,p1");
        Check.slides(y, 1, 21);
        due("all but the lid are out", y.count(3), 0);
        Check.slides(y, 11);
        due("a step", y.count(3), 0);
        Check.slides(y, 11);
        due("but for a step", y.count(3), 0);
        Check.slides(y, 11);
        due("all out", y.count(3), 1);
        Check.slides(y, 0, 20);
        due("the lid alone is out", y.count(3), 1);
        Check.slides(y, 10);
        due("a step in", y.count(3), 0);
        due("without panels", new SecretBox().count(3), 0);
    }

    private static void locksAsTheyCome() {
        doc.edge("LOCKS 0 .. 5, as they come,");
        SecretBox x = Check.made("p1,p1");
        for (int l = 0; l <= 5; l++) due("lock " + l, x.lock(0, 0, 1, 1), l);
        due("no lock 6", x.lock(0, 0, 1, 1), FULL);
        due("no lock 6", x.at(6, 0), BAD);
        due("six", x.count(1), 6);

        doc.edge("are on a PANEL, for its way IN (0), OUT (1), or both (2);");
        Edges.range(check, "lock(0, v, 1, 1)", "p1,p1", (y, v) -> y.lock(0, v, 1, 1), 0, 2);
        Edges.range(check, "lock(v, 0, 1, 1)", "p1,p1,p1", (y, v) -> y.lock(v, 0, v == 1 ? 0 : 1, 1), 0, 2);
        int[][] may = {{0, 1}, {1, 0}, {0, 0}};
        for (int way = 0; way <= 2; way++) {
            SecretBox y = Check.made("p2,p1");
            Check.slides(y, 1);
            y.lock(0, way, 1, 2);
            due("in by a lock for " + way, y.of(0, 3), may[way][0]);
            due("out by a lock for " + way, y.of(0, 4), may[way][1]);
        }

        doc.edge("they tell another PANEL, and PLACES of it (a set, 1 .. 15),");
        Edges.range(check, "lock(0, 0, 1, v)", "p1,p1", (y, v) -> y.lock(0, 0, 1, v), 1, 15);
        Edges.range(check, "lock(0, 0, v, 1)", "p1,p1,p1", (y, v) -> y.lock(v == 0 ? 2 : 0, 0, v, 1), 0, 2);
        for (int p = 0; p < 3; p++) due("the same panel " + p, Check.made("p1,p1,p1").lock(p, 0, p, 1), BAD);

        doc.edge("till they are FILED off.");
        SecretBox y = Check.made("p1,p1;0>11,0>11");
        due("locked twice", y.of(0, 4), 0);
        y.file(0);
        due("locked once", y.of(0, 4), 0);
        y.file(1);
        due("filed off", y.of(0, 4), 1);
    }

    private static void slides() {
        doc.edge("A SLIDE is told as 10 times a PANEL, and its way (0 IN, 1 OUT);");
        SecretBox x = Check.made("p2,p1,p1,p1,p2!;4>001");
        due("the last panel out", x.opens(0), 41);
        Check.slides(x, 1, 1);
        due("the first panel in", x.opens(0), 0);
        Check.ints(x, 41, 0, 0, 1);
        due("both are slides", x.clicks(SecretBox.NONE, 0, 2, 0, 2), 64);
        for (int none : new int[] {-1, 2, 9, 12, 42, 50, 51}) {
            Check.ints(x, none, 0);
            due(none + " is no slide", x.clicks(SecretBox.NONE, 0, 2, 0, 1), NOT);
        }

        doc.edge("the PANEL comes to the PLACE 1 less, 1 more.");
        SecretBox y = Check.made("p1,p1,p1,p1,p3");
        for (int place = 1; place <= 3; place++) due("out to " + place, y.slide(4, 1), 256 * place);
        for (int place = 2; place >= 0; place--) due("in to " + place, y.slide(4, 0), 256 * place);

        doc.edge("It MAY be done, if there is such a PLACE,");
        SecretBox z = Check.made("p1,p2");
        due("in from 0", z.of(1, 3) + z.slide(1, 0), NOT);
        due("out to 1", z.of(1, 4) + z.slide(1, 1), 1 + 4);
        due("in from 1, out from 1 of 2", z.count(6), 1 + 2);
        due("out to 2", z.of(1, 4) + z.slide(1, 1), 1 + 8);
        due("out from 2", z.of(1, 4) + z.slide(1, 1), NOT);

        doc.edge("all LOCKS of that PANEL for that way that are not FILED tell a PANEL that is at one of the PLACES, "
            + "and as its KIND lets it:");
        allLocksLet();
    }

    private static void allLocksLet() {
        SecretBox x = Check.made("p2,p1,p1,p1,p1;0>11,0=21,0>31,0=41,0<10,1=00");
        for (int p = 1; p <= 4; p++) {
            due("locks that do not let it", x.of(0, 4), 0);
            Check.slides(x, 10 * p + 1);
        }
        due("all four let it, those of the other way and of another panel hold nothing", x.of(0, 4), 1);
        Check.slides(x, 1);
        due("one for the way in does not let it", x.of(0, 3), 0);
        due("the other panel has a lock of its own", x.of(1, 3), 0);
        x.file(4);
        due("filed", x.of(0, 3), 1);
        Check.slides(x, 40);
        due("one does not let it", x.of(0, 4) + x.of(0, 3), 0);
        x.file(3);
        due("filed, both ways", x.of(0, 4) + x.of(0, 3), 2);
        SecretBox ring = Check.made("p1,p1,r1;2>11");
        Check.slides(ring, 11, 1);
        due("the lock lets it, the kind does not", ring.of(2, 4), 0);
        Check.slides(ring, 0);
        due("both let it", ring.of(2, 4), 1);
        Check.slides(ring, 10);
        due("neither lets it", ring.of(2, 4), 0);
    }

    /** A kind at a number among plain panels: the others stand as the set tells, it is out a step, or it is in. */
    private static SecretBox among(char kind, int number, int set, boolean isOut) {
        StringBuilder text = new StringBuilder();
        for (int p = 0; p < 5; p++) text.append(p == 0 ? "" : ",").append(p == number ? kind : 'p').append(p == number ? 2 : 1);
        SecretBox x = Check.made(text.toString());
        if (isOut && number > 0) Check.slides(x, 10 * (number - 1) + 1);
        if (isOut) Check.slides(x, 10 * number + 1);
        for (int p = 0; p < 5; p++) {
            boolean wanted = (set >> p & 1) != 0;
            boolean is = (x.count(4) >> p & 1) != 0;
            if (p != number && wanted != is) Check.slides(x, 10 * p + (wanted ? 1 : 0));
        }
        return x;
    }

    private static int ringLets(int number, int set) {
        if (number == 0) return 1;
        int lesser = set & (1 << number) - 1;
        return lesser == 1 << number - 1 ? 1 : 0;
    }

    /** PLAIN and LATCH stay where among() puts them; a SPRUNG one would slip, so it is asked IN alone. */
    private static void dueAlways(char kind, boolean inToo) {
        for (int number = 0; number < 5; number++) {
            for (int set = 0; set < 32; set++) {
                if ((set >> number & 1) != 0) continue;
                due(kind + " at " + number + " among " + set + " out", among(kind, number, set, false).of(number, 4), 1);
                if (inToo) due(kind + " at " + number + " among " + set + " in", among(kind, number, set, true).of(number, 3), 1);
            }
        }
    }

    private static void dueAsRing(char kind, boolean inToo) {
        for (int number = 0; number < 5; number++) {
            for (int set = 0; set < 32; set++) {
                if ((set >> number & 1) != 0) continue;
                String asked = kind + " at " + number + " among " + set;
                due(asked + " out", among(kind, number, set, false).of(number, 4), ringLets(number, set));
                SecretBox out = among(kind, number, set, true);
                due(asked + " out further", out.of(number, 4), ringLets(number, set));
                if (inToo) due(asked + " in", out.of(number, 3), ringLets(number, set));
            }
        }
    }

    private static void kinds() {
        doc.edge("0 PLAIN: always.");
        due("kind 0", Check.made("p1").of(0, 0), 0);
        dueAlways('p', true);

        doc.edge("Below it 1 SPRUNG: always.");
        due("kind 1", Check.made("s1").of(0, 0), 1);
        dueAlways('s', false);
        SecretBox s = Check.made("s1,s2");
        due("in, the one ahead is in", Check.slides(s, 11) + s.of(1, 3), 4 + 1);

        doc.edge("2 RING (below PLAIN): if the PANEL of the number 1 less is OUT, and all of lesser numbers than that are IN "
            + "(PANEL 0: always).");
        due("kind 2", Check.made("r1").of(0, 0), 2);
        dueAsRing('r', true);
        SecretBox r = Check.made("p3,p3,r1");
        due("out is not all out", Check.slides(r, 11) + r.of(2, 4), 4 + 1);
        due("in is all in", Check.slides(r, 1) + r.of(2, 4), 5);

        doc.edge("3 LATCH (below SPRUNG): always.");
        due("kind 3", Check.made("l1").of(0, 0), 3);
        dueAlways('l', false);
        SecretBox l = Check.made("p1,l1");
        due("in, the one ahead is in", Check.slides(l, 11) + l.of(1, 3), 4 + 1);
        due("in, the one ahead is out", Check.slides(l, 1) + l.of(1, 3), 5 + 1);

        doc.edge("4 BOLT (below RING): OUT as RING; IN always.");
        due("kind 4", Check.made("b1").of(0, 0), 4);
        dueAsRing('b', false);
        for (int number = 0; number < 5; number++) {
            for (int set = 0; set < 32; set++) {
                if ((set >> number & 1) == 0) due("b at " + number + " among " + set + " in", among('b', number, set, true).of(number, 3), 1);
            }
        }
    }

    private static void othersBehindASlide() {
        doc.edge("Behind a SLIDE each other PANEL, by KIND: SPRUNG: is at the PLACE 1 less, if it is OUT (whatever LOCKS tell).");
        SecretBox s = Check.made("s3,p3,s3;0<13,0<12,2<00");
        due("itself goes on", Check.slides(s, 1, 1, 1), 3);
        due("from 3 to 2, though locked", s.of(0, 3) * 100 + s.slide(1, 1), 4 + 2);
        due("from 2 to 1", s.slide(1, 1), 8 + 1);
        due("from 1 to 0, though locked", s.of(0, 3) * 100 + s.slide(1, 0), 4);
        due("at 0 it stays", s.slide(1, 1), 8);
        due("both are sprung, one slides", Check.slides(s, 21, 1), 9);
        Check.slides(s, 21, 21, 21);
        due("the other one slides", s.count(7), 8 + 48);
        due("a refused slide", s.slide(0, 0) + s.slide(2, 1), 2 * NOT);
        due("it stays behind what is refused", s.count(7), 8 + 48);
        s.file(0);
        due("it stays behind a file", s.count(7), 8 + 48);
        SecretBox all = Check.made("s1,s2,p1,s3,s3");
        Check.slides(all, 31, 31, 31, 41);
        due("each other one that is out", all.slide(2, 1), 16 + 64);

        doc.edge("LATCH: as SPRUNG, but not if it is all OUT.");
        int[][] then = {{0, 1}, {0, 0, 2}, {0, 0, 1, 3}};
        for (int deep = 1; deep <= 3; deep++) {
            for (int place = 0; place <= deep; place++) {
                SecretBox l = Check.made("p2,l" + deep + ";1<02");
                for (int k = 0; k < place; k++) Check.slides(l, 11);
                due("a latch at " + place + " of " + deep, Check.slides(l, 1), 1 + 4 * then[deep - 1][place]);
            }
        }

        doc.edge("Others stay.");
        for (char kind : new char[] {'p', 'r', 'b'}) {
            for (int place = 0; place <= 2; place++) {
                SecretBox x = Check.made(kind + "2,p1");
                for (int k = 0; k < place; k++) Check.slides(x, 1);
                due(kind + " at " + place, Check.slides(x, 11), 4 + place);
            }
        }
    }

    private static void shutAndFiled() {
        doc.edge("SHUT: all PANELS are IN.");
        SecretBox x = Check.made("p3,s3,r1,l3,b1!;0<11,2<30,4<30");
        Check.slides(x, 11, 21, 0, 31, 31, 31, 1, 1, 1);
        due("some are out, one of them locked", x.count(4), 1 + 4 + 8);
        due("how many were out", x.shut(), 3);
        due("all are in", x.count(7), 0);
        SecretBox all = Check.made("p3,p3,p3,p3,p3");
        for (int p = 0; p < 5; p++) Check.slides(all, 10 * p + 1, 10 * p + 1, 10 * p + 1);
        due("all five were out", all.count(7) * 10 + all.shut(), 10230 + 5);
        due("all five are in", all.count(4), 0);

        doc.edge("FILED: a LOCK is for good (may be UNDONE).");
        SecretBox y = Check.made("p1,p1;0>11");
        y.file(0);
        due("filed", y.count(5), 1);
        Check.slides(y, 1, 11);
        y.drift(3);
        y.shut();
        due("filed on", y.count(5), 1);
        due("it is", y.file(0), NOT);
        due("undone", y.undo(), 6);
        for (int k = 5; k >= 0; k--) y.undo();
        due("not filed any more", y.count(5), 0);
        due("it may be filed again", y.file(0), 1);
    }
}
