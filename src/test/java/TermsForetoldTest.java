/** The document's "Terms", part 2, sentence by sentence: what is foretold. */
public final class TermsForetoldTest {
    private static final int BAD = SecretBox.BAD, NOT = SecretBox.NOT, NONE = SecretBox.NONE;
    private static final Check check = new Check("TermsForetoldTest");
    private static final Reading doc = new Reading(check, "==== 2 FORETOLD", "==== 3 CLICKS");

    public static void main(String[] args) {
        foretoldFromNow();
        opens();
        rows();
        reach();
        to();
        key();
        files();
        game();
        gameSlides();
        fumble();
        doc.end();
        check.end();
    }

    private static void due(String call, long got, long want) {
        check.due(call, got, want);
    }

    private static void foretoldFromNow() {
        doc.edge("==== 2 FORETOLD from now (nothing is changed);");
        SecretBox x = Check.made("p2,s2,r1,l2,p1!;4>012,1=01,0<31");
        due("at first", x.opens(-1), 2);
        Check.slides(x, 1, 11, 31);
        due("from now", x.opens(-1), 1);
        due("from now", x.reach(2), 0);
        x.file(1);
        String before = Check.seen(x);
        Check.ints(x, 1, 1, 1, 1, 1, 0);
        for (int k = -2; k < 3; k++) foretellAll(x, k);
        due("is all as it was", Check.seen(x).equals(before) ? 1 : 0, 1);
        due("the tape", x.type('p'), 1);
        due("no image came", x.restore(), NONE);
        due("the sheet", x.drop(0), 6);
        SecretBox none = new SecretBox();
        before = Check.seen(none);
        for (int k = -2; k < 3; k++) foretellAll(none, k);
        due("without panels, is all as it was", Check.seen(none).equals(before) ? 1 : 0, 1);
        foretoldAnew();

        doc.edge("a STATE is at which PLACES all PANELS are.");
        due("most places of most panels", Check.made("p3,p3,p3,p3,p3").reach(0), 1024);
        due("fewest of one panel", Check.made("p1").reach(0), 2);
        SecretBox filed = Check.made("p1,p1;0>10");
        int states = filed.reach(0);
        filed.seed(99);
        filed.lid(1);
        due("whatever THE LID, THE DRAW are", filed.reach(0), states);
    }

    /** What was foretold of one box, lock, lid, state is not what is foretold of the next. */
    private static void foretoldAnew() {
        SecretBox x = Check.made("p1,p1,p1!;2>01,2>11");
        dueAnew("at first", x, 3, 2, 8);
        Check.slides(x, 1);
        dueAnew("behind a slide", x, 2, 1, 8);
        x.undo();
        dueAnew("behind an undo", x, 3, 2, 8);
        x.file(0);
        dueAnew("behind a file", x, 2, 1, 8);
        x.undo();
        x.image();
        x.lock(0, 1, 1, 2);
        dueAnew("behind a lock", x, 3, 1, 8);
        x.lid(1);
        dueAnew("behind a lid", x, 1, 1, 8);
        x.panel(0, 3);
        dueAnew("behind a panel", x, 1, 1, 32);
        Check.read(x, "p2");
        dueAnew("behind a box", x, 2, 1, 3);
        x.restore();
        dueAnew("behind an image", x, 3, 2, 8);
        Check.slides(x, 1, 11);
        dueAnew("behind two slides", x, 1, 1, 8);
        x.shut();
        dueAnew("behind all are shut", x, 3, 2, 8);
    }

    private static void dueAnew(String when, SecretBox x, int slides, int rows, int states) {
        due("opens " + when, x.opens(-1), slides);
        due("rows " + when, x.rows(), rows);
        due("reach " + when, x.reach(0), states);
    }

    private static void foretellAll(SecretBox x, int k) {
        x.opens(k);
        x.rows();
        x.reach(k);
        x.key(k);
        x.files(k + 2, k);
        x.game(k);
        x.fumble(k + 1, k);
        x.to(0, 2, 0, k);
        x.clicks(k, 0, 2, 0, 2);
        x.clicks(NONE, 0, 2, 2, 1);
    }

    private static void dueOpens(String of, SecretBox x, int... slides) {
        due("how many of " + of, x.opens(-1), slides.length);
        for (int k = 0; k < slides.length; k++) due("slide " + k + " of " + of, x.opens(k), slides[k]);
        due("no more of " + of, x.opens(slides.length), NONE);
        due("the most of " + of, x.opens(Integer.MAX_VALUE), NONE);
    }

    private static void opens() {
        doc.edge("OPENS: the fewest SLIDES behind which THE BOX is OPEN,");
        dueOpens("one deep", Check.made("p1"), 1);
        dueOpens("three deep", Check.made("p3"), 1, 1, 1);
        dueOpens("the last of five", Check.made("p3,p3,p3,p3,p2!"), 41, 41);
        dueOpens("a short and a long way", Check.made("p1,p1,p1!;2>00,2>10,0>11"), 21);

        doc.edge("of like rows the first (rising):");
        dueOpens("the first slide is less", Check.made("p1,p1,p1!;2>01,2>11"), 1, 11, 21);
        dueOpens("a later slide is less", Check.made("p1,p1,p1,p1!;0>21,3>01,3>11"), 11, 21, 1, 31);
        SecretBox inOrOut = Check.made("p2,p1!;1>002");
        inOrOut.slide(0, 1);
        dueOpens("in is less than out", inOrOut, 0, 11);

        doc.edge("how many (0: it is);");
        SecretBox open = Check.made("p1,p1;0<11");
        Check.slides(open, 1);
        dueOpens("an open one", open);
        Check.slides(open, 11, 0, 10);
        dueOpens("one that was open", open, 1);
        SecretBox longest = longest();
        due("many", longest.opens(-1), 66);
        due("many, by the model", longestOfModel(), 66);
        due("the last of them", longest.opens(65), 41);

        doc.edge("the k-th SLIDE (0 on);");
        SecretBox k = Check.made("p1,p2,p1!;2>01,2>12");
        int[] due = {BAD, 4, 1, 11, 11, 21, NONE, NONE};
        for (int at = -2; at <= 5; at++) due("k " + at, k.opens(at), due[at + 2]);

        doc.edge("none.");
        SecretBox never = Check.made("p1,p1!;0>11,1>01");
        for (int at = -1; at <= 2; at++) due("none, k " + at, never.opens(at), NONE);
        due("none, k -2", never.opens(-2), BAD);
        SecretBox noMore = Check.made("p1!,p1;0<11,1<01,0>10,1>00");
        Check.slides(noMore, 11);
        due("none any more", noMore.opens(-1), NONE);
    }

    private static final String LONGEST = "p2,s3,b3,s3,r3!;3>22,1>02";

    /** More than 60 slides, found by a search; the model, which goes through whole rows, must need as many. */
    private static SecretBox longest() {
        return Check.made(LONGEST);
    }

    private static int longestOfModel() {
        Model model = new Model();
        for (char letter : LONGEST.toCharArray()) model.type(letter);
        model.box();
        return model.opens(-1);
    }

    private static void rows() {
        doc.edge("ROWS: how many such rows of as few SLIDES there are,");
        due("one", Check.made("p3").rows(), 1);
        due("two", Check.made("p1,p1,p1!;2>01,2>11").rows(), 2);
        due("six of like ones", Check.made("p2,p2,p1!;2>02,2>12").rows(), 6);
        due("longer ones do not count", Check.made("p1,p1,p1!;2>01").rows(), 1);
        SecretBox ends = Check.made("p2,p1!;1>002");
        Check.slides(ends, 1);
        due("two that end in unlike states", ends.rows(), 2);
        Check.slides(ends, 1, 11);
        due("it is: the row of no slides", ends.rows(), 1);

        doc.edge("left over by 1000003 (none: 0).");
        due("below it", Check.made("p3,p3,p3,p3,p1!;4>03,4>13,4>23,4>33").rows(), 369600);
        // Three panels go out (1680 ways), let the fourth out, go in again (1680 ways), and the ring opens.
        due("above it", Check.made("p3,p3,p3,p1,r1!;3>03,3>13,3>23").rows(), 1680 * 1680 - 2 * 1000003);
        due("none", Check.made("p1,p1!;0>11,1>01").rows(), 0);
        due("none, though it could be by a filed lock", Check.made("p1,p1!;1>01,0>11").rows(), 0);
    }

    private static void reach() {
        doc.edge("REACH: how many STATES one can come to by SLIDES (this one, too).");
        SecretBox stuck = Check.made("p1,p1;0>11,1>01");
        due("this one alone", stuck.reach(0), 1);
        due("all of them", Check.made("p1,p2,p3").reach(0), 24);
        SecretBox oneWay = Check.made("p3,p1;0<11,1>00");
        due("all, by the other one that is out", oneWay.reach(0), 8);
        Check.slides(oneWay, 1, 1);
        due("this one and a farther one, none behind", oneWay.reach(0), 2);

        doc.edge("FAR: how many SLIDES the farthest of these needs.");
        due("this one alone", stuck.reach(1), 0);
        due("one step", Check.made("p1").reach(1), 1);
        due("all of five", Check.made("p3,p3,p3,p3,p3").reach(1), 15);
        due("rings", Check.made("r1,r1,r1,r1,r1").reach(1), 31);
        SecretBox middle = Check.made("p2");
        Check.slides(middle, 1);
        due("from the middle", middle.reach(1), 1);

        doc.edge("DEAD: from how many of these THE BOX can not be OPEN any more (it is not then).");
        due("none", Check.made("p1,p1").reach(2), 0);
        due("all", Check.made("p1,p1,p1!;2>01,0>11,1>01").reach(2), 1);
        SecretBox openAndStuck = Check.made("p1!,p1;0<11,1>00");
        Check.slides(openAndStuck, 1);
        due("it is open, and nothing may slide", openAndStuck.reach(0) * 10 + openAndStuck.reach(2), 10);
        SecretBox trap = Check.made("p1,p1!;1>00,0<11");
        due("one is a trap", trap.reach(0) * 10 + trap.reach(2), 41);
        Check.slides(trap, 1);
        due("in the trap", trap.reach(0) * 10 + trap.reach(2), 11);
    }

    private static void dueTo(String of, SecretBox x, int... slides) {
        due("how many " + of, x.to(0, 2, 0, -1), slides.length);
        for (int k = 0; k < slides.length; k++) due("slide " + k + " " + of, x.to(0, 2, 0, k), slides[k]);
        due("no more " + of, x.to(0, 2, 0, slides.length), NONE);
        due("the most " + of, x.to(0, 2, 0, Integer.MAX_VALUE), NONE);
    }

    private static void to() {
        doc.edge("TO told PLACES: as OPENS, so that all PANELS are there.");
        SecretBox x = Check.made("p1,p1,p1");
        Check.ints(x, 0, 0, 0);
        dueTo("here", x);
        Check.ints(x, 1, 1, 1);
        dueTo("of like rows the first", x, 1, 11, 21);
        Check.ints(x, 0, 0, 1);
        dueTo("the last panel alone", x, 21);
        Check.slides(x, 1);
        dueTo("all of them, not the one alone", x, 0, 21);
        Check.ints(x, 1, 0, 0);
        dueTo("here, and open", x);
        SecretBox never = Check.made("s1,s1");
        Check.ints(never, 1, 1);
        for (int k = -1; k <= 1; k++) due("none, k " + k, never.to(0, 2, 0, k), NONE);
        Check.ints(never, 2, 0);
        due("no such place", never.to(0, 2, 0, -1), NOT);
        SecretBox most = Check.made("p3,p3,p3,p3,p3");
        Check.ints(most, 3, 3, 3, 3, 3);
        due("the farthest", most.to(0, 2, 0, -1), 15);
        due("its last slide", most.to(0, 2, 0, 14), 41);
    }

    private static void dueKey(String of, SecretBox x, int lock, int slides) {
        due("which " + of, x.key(0), lock);
        due("how many " + of, x.key(1), slides);
    }

    private static void key() {
        doc.edge("KEY: the LOCK that is not FILED, by which, were it FILED now, OPENS tells least,");
        dueKey("is the last", Check.made("p1,p1,p1!;0>11,1>21,2>01"), 2, 1);
        SecretBox filed = Check.made("p1,p1!;1>01,0>10");
        filed.file(0);
        dueKey("is not filed", filed, 1, 1);
        filed.undo();
        dueKey("was filed", filed, 0, 1);
        SecretBox slid = Check.made("p1,p2!;1>01,1>01");
        Check.slides(slid, 1, 11);
        dueKey("counts from now", slid, 0, 1);

        doc.edge("of like ones the first;");
        dueKey("of like ones", Check.made("p1,p1,p1!;0<11,2>01,2>01"), 0, 2);
        dueKey("of six like ones", Check.made("p1,p1;0<10,0<10,0<10,0<10,0<10,0<10"), 0, 1);
        dueKey("the second and the third", Check.made("p1,p1,p1!;0<11,2>01,2>11"), 1, 2);

        doc.edge("how many;");
        SecretBox open = Check.made("p1,p1;0<11,1>00");
        Check.slides(open, 1);
        dueKey("it is open", open, 0, 0);
        dueKey("three deep", Check.made("p1,p3!;1>01"), 0, 3);

        doc.edge("none (there is none, by none it OPENS).");
        dueKey("there is none", Check.made("p1,p1"), NONE, NONE);
        SecretBox all = Check.made("p1,p1;0>10");
        all.file(0);
        dueKey("the one is filed", all, NONE, NONE);
        dueKey("by none", Check.made("p1,p1;0>11,0>11,1>01"), 2, 2);
        dueKey("by none", Check.made("p1,p1;0>11,0>11,1>01,1>01"), NONE, NONE);
    }

    private static void dueFiles(String of, SecretBox x, int n, int many, int set) {
        due("how many for " + n + " of " + of, x.files(n, 0), many);
        due("which for " + n + " of " + of, x.files(n, 1), set);
    }

    private static void files() {
        doc.edge("FILES for n SLIDES (0 .. 60):");
        Edges.range(check, "files(v, 0)", "p1", (x, v) -> x.files(v, 0), 0, 60);
        SecretBox longest = longest();
        for (int k = 0; k < 5; k++) Check.slides(longest, longest.opens(0));
        due("61 are needed", longest.opens(-1), 61);
        due("60 are fewer", longest.files(60, 0), 1);
        Check.slides(longest, longest.opens(0));
        dueFiles("one of 60", longest, 60, 0, 0);
        due("59 are fewer", longest.files(59, 0), 1);

        doc.edge("the fewest LOCKS that are not FILED which should be so that THE BOX OPENS by n SLIDES or fewer,");
        SecretBox x = Check.made("p1,p1,p1!;0>11,1>01,2>01");
        dueFiles("the last for one slide", x, 1, 1, 4);
        dueFiles("the first for one slide more", x, 2, 1, 1);
        dueFiles("one, though two are a lesser set", Check.made("p1,p1,p1!;0>11,0>11,2>01"), 2, 1, 4);
        dueFiles("one, two behind those two", Check.made("p1,p1,p1!;0>11,0>11,1<00,2>01"), 2, 1, 8);
        SecretBox twice = Check.made("p1!,p1;0>11,0>11,1>01,1>01");
        dueFiles("two", twice, 1, 2, 3);
        twice.file(0);
        dueFiles("not the filed one", twice, 1, 1, 2);
        twice.file(1);
        dueFiles("by one slide", twice, 1, 0, 0);
        SecretBox six = Check.made("p1!,p1;0>11,0>11,0>11,0>11,0>11,0>11");
        dueFiles("all six", six, 1, 6, 63);
        dueFiles("two slides or fewer", six, 2, 0, 0);
        dueFiles("many more slides", six, 60, 0, 0);

        doc.edge("of like ones the least set:");
        dueFiles("like ones", Check.made("p1!,p1;0>11,0>11,1>01,1>01"), 2, 2, 3);
        dueFiles("the second alone", Check.made("p1!,p1,p1;2>01,0>11,1>00,1>20,1>01"), 1, 1, 2);
        dueFiles("one of two", Check.made("p1!,p1;0>11,1>01"), 2, 1, 1);

        doc.edge("how many; which; none.");
        SecretBox open = Check.made("p1,p1;0<11");
        dueFiles("not open by no slide", open, 0, NONE, NONE);
        Check.slides(open, 1);
        dueFiles("open", open, 0, 0, 0);
        dueFiles("the last lock alone", Check.made("p1!,p1;0<10,0<10,0<10,0<10,0<10,0>11"), 1, 1, 32);
        dueFiles("three deep", Check.made("p3,p1;0>10"), 2, NONE, NONE);
        dueFiles("three deep", Check.made("p3,p1;0>10"), 3, 0, 0);
    }

    private static void dueGame(String of, SecretBox x, int who, int slides, int slide) {
        due("who wins: " + of, x.game(0), who);
        due("by how many: " + of, x.game(1), slides);
        due("the slide: " + of, x.game(2), slide);
    }

    private static void game() {
        doc.edge("GAME: two slide by turns, one SLIDE each, from now;");
        dueGame("the other one's turn is last", Check.made("p2"), 2, 2, 1);
        SecretBox now = Check.made("p2");
        Check.slides(now, 1);
        dueGame("from now", now, 1, 1, 1);
        SecretBox lids = Check.made("p2,p1");
        lids.lock(1, 2, 0, 8);
        dueGame("by one lid", lids, 2, 2, 1);
        lids.lid(1);
        dueGame("by another lid", lids, 0, 0, 1);
        lids.lid(0);
        dueGame("by the one lid again", lids, 2, 2, 1);

        doc.edge("whoever makes THE BOX OPEN wins;");
        dueGame("at once", Check.made("p1"), 1, 1, 1);
        dueGame("though the other one could go on", Check.made("p1,p3"), 1, 1, 1);

        doc.edge("who can do no SLIDE loses;");
        // Behind the first panel's slide nothing may be slid, as behind the lid's.
        dueGame("the other one can do none", Check.made("p1,p1!;0<11,1>00"), 1, 1, 1);
        dueGame("can do none at once", Check.made("p1!,p1;0>11,1>01"), 2, 0, NONE);

        doc.edge("if that goes on for ever, neither does.");
        dueGame("whoever slides out to 2 loses", Check.made("p3"), 0, 0, 1);
        dueGame("never open, never stuck", loop(), 0, 0, 11);
    }

    /** The lid needs what can't be; the other panel goes out and in for ever. */
    private static SecretBox loop() {
        SecretBox x = Check.made("p1!,p1");
        x.lock(0, 1, 1, 8);
        return x;
    }

    private static void gameSlides() {
        doc.edge("Who wins does so as soon as can be,");
        // Slid out first, the other panel must be slid in again by the other one: a win by 3.
        dueGame("by 1, not by 3", Check.made("r1,p1!;1>00"), 1, 1, 11);
        dueGame("by 3, not by 5", Check.made("b1,p3!;0>10,1<01"), 1, 3, 11);

        doc.edge("who loses as late:");
        dueGame("by 4, not by 2", Check.made("p2!,l2;1<01"), 2, 4, 11);

        doc.edge("whether the one whose turn it is wins (1), loses (2; by 0 SLIDES, if it is OPEN now), neither (0);");
        SecretBox open = Check.made("p1,p3");
        Check.slides(open, 1);
        dueGame("open now", open, 2, 0, NONE);
        Check.slides(open, 11, 11);
        dueGame("open on", open, 2, 0, NONE);

        doc.edge("by how many SLIDES (0: neither);");
        SecretBox three = Check.made("p3");
        due("neither", three.game(1), 0);
        Check.slides(three, 1);
        due("neither", three.game(1), 0);
        Check.slides(three, 1);
        due("one", three.game(1), 1);

        doc.edge("the SLIDE to do first, of like ones the least (neither: one by which neither does);");
        dueGame("two that win by 1", Check.made("p1,p1,p1!;0>10,1>00,0<11,1<01,2>01,2>11"), 1, 1, 1);
        dueGame("two that lose by 2", Check.made("r2,p2!;1>00,0<12"), 2, 2, 1);
        dueGame("the least would lose", Check.made("p2!,p1"), 0, 0, 11);
        dueGame("two by which neither does", Check.made("p2!,p1,p1"), 0, 0, 11);
        SecretBox in = Check.made("p3");
        Check.slides(in, 1);
        dueGame("the very least", in, 0, 0, 0);
        dueGame("the last of five", Check.made("p2,p2,p2,p2,p1!"), 1, 1, 41);

        doc.edge("none: it is OPEN, none can be done.");
        due("it is open", open.game(2), NONE);
        due("none can be done", Check.made("p1!,p1;0>11,1>01").game(2), NONE);
    }

    private static void dueFumble(String of, SecretBox x, int n, long above, long below) {
        due("above by " + n + ": " + of, x.fumble(n, 0), above);
        due("below by " + n + ": " + of, x.fumble(n, 1), below);
    }

    private static void fumble() {
        doc.edge("FUMBLE of n (0 .. 3):");
        Edges.range(check, "fumble(v, 0)", "p1", (x, v) -> x.fumble(v, 0), 0, 3);
        Edges.range(check, "fumble(v, 1)", "", (x, v) -> x.fumble(v, 1), 0, 3);

        doc.edge("n times one of the SLIDES that MAY be done then is done, each as likely (none: nothing is):");
        dueFumble("one of three", Check.made("p1,p1,p1"), 0, 0, 1);
        dueFumble("one of three", Check.made("p1,p1,p1"), 1, 1, 3);
        dueFumble("one of three", Check.made("p1,p1,p1"), 2, 5, 9);
        dueFumble("one of three", Check.made("p1,p1,p1"), 3, 19, 27);
        for (int n = 0; n <= 3; n++) dueFumble("none", Check.made("p1,p1!;1>01,0>11"), n, 0, 1);
        for (int n = 1; n <= 3; n++) dueFumble("none behind the first", Check.made("p1,p1!;0<11,1>00"), n, 1, 2);
        SecretBox ten = Check.made("p3,p3,p3,p3,p3");
        Check.slides(ten, 1, 1, 11, 21, 31, 41);
        dueFumble("one of ten", ten, 1, 1, 10);
        dueFumble("one alone", Check.made("p1"), 1, 1, 1);

        doc.edge("how likely THE BOX is OPEN ahead of them, or behind one of them:");
        SecretBox open = Check.made("p1,p1");
        Check.slides(open, 1);
        for (int n = 0; n <= 3; n++) dueFumble("open ahead", open, n, 1, 1);
        for (int n = 1; n <= 3; n++) dueFumble("open behind the first, shut again", Check.made("p1"), n, 1, 1);
        dueFumble("open behind the last", Check.made("p3"), 3, 1, 4);
        dueFumble("three deep by two", Check.made("p3"), 2, 0, 1);

        doc.edge("a fraction in lowest terms.");
        dueFumble("0", Check.made("p2,p2"), 1, 0, 1);
        dueFumble("1", Check.made("p1"), 3, 1, 1);
        dueFumble("1 of 6", Check.made("p2,p1"), 2, 1, 6);
        dueFumble("11 of 36", Check.made("p2,p1"), 3, 11, 36);
        due("what is no part of a fraction", Check.made("p1").fumble(1, 2), BAD);
    }
}
