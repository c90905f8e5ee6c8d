/** Promises 16 to 24: what is foretold, the image. */
public final class ForetoldTest {
    private static final Check check = new Check("ForetoldTest");

    public static void main(String[] args) {
        opens();
        rows();
        reach();
        keys();
        files();
        games();
        fumbles();
        images();
        whatMayBeUndone();
        restored();
        withoutPanels();
        nothingIsChanged();
        foretoldAnew();
        check.end();
    }

    private static void due(String call, long got, long want) {
        check.due(call, got, want);
    }

    /** OPENS, slide by slide. */
    private static void dueOpens(SecretBox x, String of, int... slides) {
        due("16 opens(-1) of " + of, x.opens(-1), slides.length);
        for (int k = 0; k < slides.length; k++) due("16 opens(" + k + ") of " + of, x.opens(k), slides[k]);
        due("16 no more of " + of, x.opens(slides.length), SecretBox.NONE);
        due("16 far beyond of " + of, x.opens(Integer.MAX_VALUE), SecretBox.NONE);
    }

    private static void opens() {
        SecretBox x = Check.made("p1,p2!;1>01");
        due("16 below", x.opens(-2), SecretBox.BAD);
        due("16 far below", x.opens(Integer.MIN_VALUE), SecretBox.BAD);
        dueOpens(x, "a locked lid", 1, 11, 11);
        dueOpens(Check.made("p1,p1,p1!;2>01,2>11"), "two locks, the lesser first", 1, 11, 21);
        dueOpens(Check.made("p1!,p1,p1;0>11,0>21,1>21"), "two locks, the greater first", 21, 11, 1);
        dueOpens(Check.made("p1,p1,p1!;2>00,2>11"), "one that is in", 11, 21);
        dueOpens(Check.made("r1,r1,r1!"), "three rings", 1, 11, 0, 21);
        dueOpens(Check.made("b1,b1,b1!"), "three bolts", 1, 11, 0, 21);
        dueOpens(Check.made("s3,p1!;1>01"), "a sprung one, then the lid", 1, 11);
        dueOpens(Check.made("p1,s1,p1!;2>01,2>11"), "a sprung one is last", 1, 11, 21);
        dueOpens(Check.made("s1,p1,p1!;2>01,2>11"), "a sprung one is last", 11, 1, 21);
        dueOpens(Check.made("p2,l2,p1!;2>02,2>12"), "a latch all out stays", 1, 1, 11, 11, 21);
        x.slide(0, 1);
        dueOpens(x, "one slid", 11, 11);
        Check.slides(x, 11, 11);
        dueOpens(x, "an open one");
        x.slide(1, 0);
        dueOpens(x, "one to go", 11);

        SecretBox never = Check.made("p1,p1!;1>01,0>11");
        due("16 none", never.opens(-1), SecretBox.NONE);
        due("16 none", never.opens(0), SecretBox.NONE);
        never.file(1);
        dueOpens(never, "a filed lock", 1, 11);
        never.undo();
        due("16 none again", never.opens(-1), SecretBox.NONE);
        never.lid(0);
        due("16 none by another lid", never.opens(-1), SecretBox.NONE);
    }

    private static void rows() {
        due("17 one row", Check.made("p1,p2!;1>01").rows(), 1);
        due("17 two rows", Check.made("p1,p1,p1!;2>01,2>11").rows(), 2);
        due("17 rows of like states", Check.made("p2,p2,p1!;2>02,2>12").rows(), 6);
        due("17 no row", Check.made("p1,p1!;1>01,0>11").rows(), 0);
        due("17 four by three steps", Check.made("p3,p3,p3,p3,p1!;4>03,4>13,4>23,4>33").rows(), 369600);
        // Three panels go out (1680 rows), let the fourth out, go in again (1680 rows), and the ring opens.
        SecretBox many = Check.made("p3,p3,p3,p1,r1!;3>03,3>13,3>23");
        due("17 twenty slides", many.opens(-1), 20);
        due("17 left over", many.rows(), 1680 * 1680 % 1000003);
        SecretBox both = Check.made("p3,p3,p3,p3,r1!");
        Check.slides(both, 31, 31);
        for (int other = 0; other < 3; other++) both.lock(3, 2, other, 8);
        both.lock(4, 1, 3, 2 + 8);
        due("17 twenty slides, either way", both.opens(-1), 20);
        due("17 left over of two states", both.rows(), 2 * 1680 * 1680 % 1000003);
        SecretBox x = Check.made("p1");
        due("17 one row", x.rows(), 1);
        x.slide(0, 1);
        due("17 the empty row", x.rows(), 1);
        SecretBox ends = Check.made("p2,p1!;1>002");
        ends.slide(0, 1);
        due("17 rows that end in unlike states", ends.rows(), 2);
        dueOpens(ends, "a lock that two places let", 0, 11);
        SecretBox either = Check.made("p1,p2,p1!;2>112");
        due("17 places 1 and 2 let", either.rows(), 1);
    }

    private static void reach() {
        SecretBox x = Check.made("p1,p2,p3");
        due("18 below", x.reach(-1), SecretBox.BAD);
        due("18 above", x.reach(3), SecretBox.BAD);
        due("18 all states", x.reach(0), 24);
        due("18 the farthest", x.reach(1), 6);
        due("18 none is dead", x.reach(2), 0);
        Check.slides(x, 1, 21);
        due("18 all states from there", x.reach(0), 24);
        due("18 the farthest from there", x.reach(1), 5);

        SecretBox most = Check.made("p3,p3,p3,p3,p3");
        due("18 most states", most.reach(0), 1024);
        due("18 the farthest of most", most.reach(1), 15);

        SecretBox trap = Check.made("p1,p1!;1>00,0<11");
        due("18 a trap", trap.reach(0), 4);
        due("18 far in a trap", trap.reach(1), 2);
        due("18 one is dead", trap.reach(2), 1);
        trap.slide(0, 1);
        due("18 trapped", trap.reach(0), 1);
        due("18 far, trapped", trap.reach(1), 0);
        due("18 dead, trapped", trap.reach(2), 1);
        trap.file(0);
        due("18 free", trap.reach(2), 0);
        due("18 open, though nothing may be done", openAndStuck().reach(2), 0);
        due("18 one state", openAndStuck().reach(0), 1);
        SecretBox rings = Check.made("r1,r1,r1,r1,r1!");
        due("18 rings", rings.reach(0), 32);
        due("18 rings, far", rings.reach(1), 31);
    }

    /** The lid is all out, and nothing may be slid. */
    private static SecretBox openAndStuck() {
        SecretBox x = Check.made("p1!,p1;0<11,1>00");
        x.slide(0, 1);
        return x;
    }

    private static void keys() {
        SecretBox x = Check.made("p1,p1!;1>01,0>11");
        due("19 below", x.key(-1), SecretBox.BAD);
        due("19 above", x.key(2), SecretBox.BAD);
        due("19 the first opens at once", x.key(0), 0);
        due("19 how many", x.key(1), 1);
        x.file(0);
        due("19 the other one is left", x.key(0), 1);
        due("19 how many", x.key(1), 1);
        x.file(1);
        due("19 none is left", x.key(0), SecretBox.NONE);
        due("19 none is left", x.key(1), SecretBox.NONE);
        SecretBox y = Check.made("p1,p1,p1!;0>11,2>01,1>21");
        due("19 the second one", y.key(0), 1);
        due("19 by one", y.key(1), 1);
        SecretBox like = Check.made("p1,p1,p1!;0<11,2>01,2>01");
        due("19 of like ones the first", like.key(0), 0);
        due("19 of like ones the first", like.key(1), 2);
        SecretBox never = Check.made("p1!,p1;0>11,0>11,1>01");
        due("19 by the third", never.key(0), 2);
        due("19 by the third", never.key(1), 2);
        SecretBox two = Check.made("p1!,p1;0>11,0>11,1>01,1>01");
        due("19 by none", two.key(0), SecretBox.NONE);
        due("19 by none", two.key(1), SecretBox.NONE);
        SecretBox open = Check.made("p1,p1;1>01,1>01");
        open.slide(0, 1);
        due("19 open", open.key(0), 0);
        due("19 open", open.key(1), 0);
    }

    private static void files() {
        SecretBox x = Check.made("p1!,p1;0>11,0>11,1>01,1>01");
        due("20 below", x.files(-1, 0), SecretBox.BAD);
        due("20 above", x.files(61, 0), SecretBox.BAD);
        due("20 what below", x.files(0, -1), SecretBox.BAD);
        due("20 what above", x.files(0, 2), SecretBox.BAD);
        due("20 none by no slide", x.files(0, 0), SecretBox.NONE);
        due("20 none by no slide", x.files(0, 1), SecretBox.NONE);
        due("20 two for one slide", x.files(1, 0), 2);
        due("20 which for one slide", x.files(1, 1), 3);
        due("20 two for many", x.files(60, 0), 2);
        due("20 the least set", x.files(60, 1), 3);
        x.file(2);
        due("20 one more for two", x.files(2, 0), 1);
        due("20 not the filed one", x.files(2, 1), 8);
        due("20 still two for one", x.files(1, 1), 3);
        x.file(3);
        due("20 none needed", x.files(2, 0), 0);
        due("20 none needed", x.files(2, 1), 0);
        SecretBox fewer = Check.made("p1!,p1,p1;0>11,1>21,2>00,0>21,1>20,0>11");
        due("20 one slide", fewer.files(1, 0), 3);
        due("20 one slide", fewer.files(1, 1), 41);
        SecretBox count = Check.made("p1,p1,p1!;0>11,1>01,2>01");
        due("20 fewest ahead of least", count.files(1, 0), 1);
        due("20 fewest ahead of least", count.files(1, 1), 4);
        due("20 two slides", count.files(2, 1), 1);
        SecretBox open = Check.made("p1");
        open.slide(0, 1);
        due("20 open", open.files(0, 0), 0);
        due("20 open", open.files(0, 1), 0);
    }

    private static void dueGame(String of, SecretBox x, int who, int bySlides, int slide) {
        due("21 who wins " + of, x.game(0), who);
        due("21 by how many " + of, x.game(1), bySlides);
        due("21 the slide " + of, x.game(2), slide);
    }

    private static void games() {
        SecretBox x = Check.made("p3");
        due("21 below", x.game(-1), SecretBox.BAD);
        due("21 above", x.game(3), SecretBox.BAD);
        dueGame("three deep", x, 0, 0, 1);
        x.slide(0, 1);
        dueGame("three deep, one out", x, 0, 0, 0);
        x.slide(0, 1);
        dueGame("three deep, two out", x, 1, 1, 1);
        x.slide(0, 1);
        dueGame("open", x, 2, 0, SecretBox.NONE);
        dueGame("one deep", Check.made("p1"), 1, 1, 1);
        dueGame("two deep", Check.made("p2"), 2, 2, 1);
        dueGame("none may", Check.made("p1,p1!;1>01,0>11"), 2, 0, SecretBox.NONE);
        dueGame("who can't slide loses", Check.made("p1!,p1;0>10,1>01,0<11"), 1, 1, 1);
        // Whoever slides the one free panel leaves the other one without a slide.
        dueGame("the other one can't", Check.made("p1,p1!;0<11,1>00"), 1, 1, 1);
        dueGame("stuck behind it", Check.made("p1,p2!;0<12,1>00"), 1, 1, 1);
        dueGame("of like slides the least", Check.made("p1,p1,p3!;0<21,1<21,2>00,2>10"), 0, 0, 21);
        dueGame("rings", Check.made("r1,r1!"), 2, 2, 1);
    }

    private static void dueFumble(String of, SecretBox x, int n, long above, long below) {
        due("22 above, " + of + " by " + n, x.fumble(n, 0), above);
        due("22 below, " + of + " by " + n, x.fumble(n, 1), below);
    }

    private static void fumbles() {
        SecretBox x = Check.made("p1,p1,p1");
        due("22 below", x.fumble(-1, 0), SecretBox.BAD);
        due("22 above", x.fumble(4, 0), SecretBox.BAD);
        due("22 what below", x.fumble(0, -1), SecretBox.BAD);
        due("22 what above", x.fumble(0, 2), SecretBox.BAD);
        dueFumble("three", x, 0, 0, 1);
        dueFumble("three", x, 1, 1, 3);
        dueFumble("three", x, 2, 5, 9);
        dueFumble("three", x, 3, 19, 27);
        SecretBox y = Check.made("p2,p1");
        dueFumble("unlike", y, 1, 0, 1);
        dueFumble("unlike", y, 2, 1, 6);
        dueFumble("unlike", y, 3, 11, 36);
        SecretBox open = Check.made("p1,p3");
        open.slide(0, 1);
        for (int n = 0; n <= 3; n++) dueFumble("open ahead", open, n, 1, 1);
        for (int n = 0; n <= 3; n++) dueFumble("none may", Check.made("p1,p1!;1>01,0>11"), n, 0, 1);
        dueFumble("stuck on the way", Check.made("p1,p1!;0<11,1>00"), 3, 1, 2);
        SecretBox filed = Check.made("p1,p1;0>11");
        dueFumble("locked", filed, 1, 0, 1);
        filed.file(0);
        dueFumble("filed", filed, 1, 1, 2);
        SecretBox middle = Check.made("p3,p3,p3,p3,p3");
        Check.slides(middle, 1, 1, 11, 21, 31, 41);
        dueFumble("ten slides", middle, 1, 1, 10);
    }

    private static void images() {
        SecretBox x = Check.made("p2,s2!;0>10");
        x.seed(500);
        Check.slides(x, 1, 11);
        x.file(0);
        due("23 image", x.image(), 1);
        due("23 nothing is changed", x.count(7), 5);
        due("23 nothing is changed", x.count(8), 3);
        x.sheet(0, 1, 4);
        x.type('p');
        x.drift(9);
        x.lid(0);
        x.panel(4, 3);
        x.lock(2, 2, 1, 6);
        due("24 restore", x.restore(), 1);
        due("24 panels", x.count(0), 2);
        due("24 locks", x.count(1), 1);
        due("24 lid", x.count(2), 1);
        due("24 filed", x.count(5), 1);
        due("24 state", x.count(7), 5);
        due("24 known", x.count(8), 3);
        due("24 the draw", x.seed(500), 500);
        due("24 the tape stays", x.type('1'), 2);
        due("24 the sheets stay", x.drop(0), 4);
        due("24 undone", x.undo(), 2);
        due("24 undone", x.count(5), 0);
        due("24 undone", x.undo(), 1);
        due("24 undone", x.count(7), 1);
        due("24 undone", x.undo(), 0);
        due("24 it is kept on", x.restore(), 1);
        due("24 again", x.count(8), 3);
        Check.slides(x, 1);
        due("23 another image", x.image(), 1);
        Check.read(x, "l3");
        x.restore();
        due("24 the later one", x.count(7), 2);
        due("24 the later one", x.count(8), 4);
    }

    /** An image keeps where panels were, what was filed, the draw of each time that may be undone. */
    private static void whatMayBeUndone() {
        SecretBox x = Check.made("p3,p3;0<10,1<00");
        Check.slides(x, 1, 11);
        x.file(1);
        x.seed(300);
        x.drift(1);
        x.file(0);
        int drawn = x.seed(40);
        int state = x.count(7);
        x.image();
        Check.read(x, "s1,s1,s1");
        x.seed(5);
        x.drift(8);
        x.restore();
        due("24 known", x.count(8), 5);
        due("24 the draw", x.seed(41), 40);
        due("24 undone", x.undo(), 4);
        due("24 filed then", x.count(5), 2);
        due("24 the draw then", x.seed(42), drawn);
        due("24 the state then", x.count(7), state);
        due("24 undone", x.undo(), 3);
        due("24 the draw then", x.seed(43), 300);
        due("24 the state then", x.count(7), 5);
        due("24 undone", x.undo(), 2);
        due("24 not filed then", x.count(5), 0);
        due("24 the draw then", x.seed(44), 1);
        due("24 undone", x.undo(), 1);
        due("24 the state then", x.count(7), 1);
        due("24 undone", x.undo(), 0);
        due("24 the state then", x.count(7), 0);
        due("24 none", x.undo(), SecretBox.NONE);
    }

    private static void restored() {
        SecretBox x = new SecretBox();
        due("24 none", x.restore(), SecretBox.NONE);
        due("23 without panels", x.image(), 1);
        Check.read(x, "p1,p1");
        due("24 without panels", x.restore(), 1);
        due("24 without panels", x.count(0), 0);
        due("24 without panels, again", x.restore(), 1);
        SecretBox y = Check.made("p1,p2,p3;0>11");
        due("24 none", y.restore(), SecretBox.NONE);
        y.image();
        due("16 ahead", y.opens(-1), 2);
        Check.read(y, "r3");
        due("16 another box", y.opens(-1), 3);
        y.restore();
        due("16 restored", y.opens(-1), 2);
        due("24 kinds", y.of(0, 0), 0);
        due("24 deep", y.of(2, 1), 3);
        due("24 locks", y.at(0, 1), 1);
    }

    private static void withoutPanels() {
        SecretBox x = new SecretBox();
        due("16", x.opens(-1), SecretBox.NONE);
        due("16", x.opens(3), SecretBox.NONE);
        due("16", x.opens(-2), SecretBox.BAD);
        due("17", x.rows(), 0);
        due("18", x.reach(0), 1);
        due("18", x.reach(1), 0);
        due("18", x.reach(2), 1);
        due("18", x.reach(3), SecretBox.BAD);
        due("19", x.key(0), SecretBox.NONE);
        due("19", x.key(1), SecretBox.NONE);
        due("19", x.key(2), SecretBox.BAD);
        due("20", x.files(0, 0), SecretBox.NONE);
        due("20", x.files(60, 1), SecretBox.NONE);
        due("20", x.files(61, 1), SecretBox.BAD);
        for (int what = 0; what < 3; what++) due("21", x.game(what), SecretBox.NONE);
        due("21", x.game(3), SecretBox.BAD);
        for (int n = 0; n < 4; n++) dueFumble("no panels", x, n, 0, 1);
        due("22", x.fumble(4, 0), SecretBox.BAD);
    }

    private static void nothingIsChanged() {
        SecretBox x = Check.made("p2,s2,r1,l2,b1!;4>01,1=01");
        Check.slides(x, 1, 11);
        x.opens(-1);
        x.rows();
        x.reach(2);
        x.key(0);
        x.files(7, 0);
        x.game(2);
        x.fumble(3, 0);
        due("16 to 22 the state", x.count(7), 5);
        due("16 to 22 filed", x.count(5), 0);
        due("16 to 22 known", x.count(8), 2);
        due("16 to 22 the draw", x.seed(1), 1);
    }

    /** What was foretold of one box, place, lock must not be told of the next. */
    private static void foretoldAnew() {
        SecretBox x = Check.made("p1,p1");
        due("16 a free one", x.opens(-1), 1);
        x.lock(0, 1, 1, 2);
        due("16 locked", x.opens(-1), 2);
        x.file(0);
        due("16 filed", x.opens(-1), 1);
        x.undo();
        due("16 not filed", x.opens(-1), 2);
        due("18 three", x.reach(0), 4);
        x.panel(0, 3);
        due("18 three", x.reach(0), 16);
        x.lid(2);
        due("16 another lid", x.opens(-1), 3);
        x.slide(2, 1);
        due("16 slid", x.opens(-1), 2);
        x.shut();
        due("16 shut", x.opens(-1), 3);
        Check.read(x, "p2,p1");
        due("16 another box", x.opens(-1), 2);
        due("19 no lock", x.key(0), SecretBox.NONE);
        due("18 another box", x.reach(0), 6);
    }
}
