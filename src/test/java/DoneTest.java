/** Promises 10 to 15: slid, shut, filed, drifted, undone, the draw. */
public final class DoneTest {
    private static final Check check = new Check("DoneTest");

    public static void main(String[] args) {
        slides();
        slippingBack();
        shut();
        filed();
        drifts();
        driftsWithoutPanels();
        undone();
        eightAreKnown();
        undoneWhateverWasTold();
        seeds();
        check.end();
    }

    private static void due(String call, long got, long want) {
        check.due(call, got, want);
    }

    private static void slides() {
        due("10 no panels", new SecretBox().slide(0, 1), SecretBox.BAD);
        SecretBox x = Check.made("p2,p1,p3;1>02");
        due("10 below", x.slide(-1, 1), SecretBox.BAD);
        due("10 above", x.slide(3, 1), SecretBox.BAD);
        due("10 way below", x.slide(0, -1), SecretBox.BAD);
        due("10 way above", x.slide(0, 2), SecretBox.BAD);
        due("10 in already", x.slide(0, 0), SecretBox.NOT);
        due("10 locked", x.slide(1, 1), SecretBox.NOT);
        due("10 nothing is known of what is refused", x.count(8), 0);
        due("10 out", x.slide(0, 1), 1);
        due("10 locked yet", x.slide(1, 1), SecretBox.NOT);
        due("10 out", x.slide(0, 1), 2);
        due("10 all out already", x.slide(0, 1), SecretBox.NOT);
        due("10 let", x.slide(1, 1), 6);
        due("10 the third", x.slide(2, 1), 22);
        due("10 the third", x.slide(2, 1), 38);
        due("10 the third", x.slide(2, 1), 54);
        due("10 no further", x.slide(2, 1), SecretBox.NOT);
        due("10 in", x.slide(0, 0), 53);
        due("10 in is free", x.slide(1, 0), 49);
        due("10 known", x.count(8), 8);
    }

    private static void slippingBack() {
        SecretBox x = Check.made("p1,s2,l2,s3,l1");
        due("10 a sprung one", x.slide(1, 1), 4);
        due("10 itself goes on", x.slide(1, 1), 8);
        due("10 it slips behind another", x.slide(0, 1), 5);
        due("10 and again", x.slide(2, 1), 17);
        due("10 a latch is out a step, a sprung one slides", x.slide(3, 1), 65);
        due("10 both slip", x.slide(0, 0), 0);
        Check.slides(x, 21, 21);
        due("10 a latch all out stays", x.slide(0, 1), 33);
        due("10 a latch of one step stays", x.slide(4, 1), 289);
        due("10 a latch slides in", x.slide(2, 0), 273);
        due("10 then it slips", x.slide(0, 0), 256);
        SecretBox y = Check.made("s3,p1,l2;0=11");
        due("10 a locked sprung one", y.slide(0, 1), SecretBox.NOT);
        Check.slides(y, 11, 1, 1);
        due("10 two steps out", y.count(7), 6);
        due("10 it slips whatever locks tell", y.slide(1, 0), 1);
        due("10 it is locked", y.slide(0, 0), SecretBox.NOT);
        due("10 it slips, locked", y.slide(2, 1), 16);
    }

    private static void shut() {
        due("11 no panels", new SecretBox().shut(), SecretBox.NOT);
        SecretBox x = Check.made("p2,r1,b1;0<11");
        due("11 none is out", x.shut(), SecretBox.NOT);
        due("11 refused", x.count(8), 0);
        Check.slides(x, 1, 11, 1);
        due("11 two were out", x.shut(), 2);
        due("11 all in", x.count(7), 0);
        due("11 known", x.count(8), 4);
        due("11 none is out", x.shut(), SecretBox.NOT);
        due("11 undone", x.undo(), 3);
        due("11 as ahead of it", x.count(7), 6);
    }

    private static void filed() {
        due("12 no locks", new SecretBox().file(0), SecretBox.BAD);
        SecretBox x = Check.made("p1,p1,p1;0>11,1>01,2>01");
        due("12 below", x.file(-1), SecretBox.BAD);
        due("12 above", x.file(3), SecretBox.BAD);
        due("12 last", x.file(2), 4);
        due("12 it is", x.file(2), SecretBox.NOT);
        due("12 another", x.file(0), 5);
        due("12 it is", x.file(0), SecretBox.NOT);
        due("12 known", x.count(8), 2);
        due("12 it slides", x.slide(0, 1), 1);
        x.shut();
        due("12 shut leaves it filed", x.count(5), 5);
        due("12 the second", x.file(1), 7);
        x.undo();
        due("12 undone", x.count(5), 5);
        due("12 again", x.file(1), 7);
    }

    private static long drawBehind(long draw) {
        return (draw * 1103515245L + 12345L) % (1L << 31);
    }

    private static void drifts() {
        SecretBox x = Check.made("p3,p2,p3,p1,p3");
        due("13 below", x.drift(0), SecretBox.BAD);
        due("13 far below", x.drift(Integer.MIN_VALUE), SecretBox.BAD);
        due("13 above", x.drift(41), SecretBox.BAD);
        due("13 refused", x.count(8), 0);
        int[] deeps = {3, 2, 3, 1, 3};
        int[] places = new int[5];
        long draw = 1;
        int moved = 0;
        for (int n = 1; n <= 40; n++) {
            for (int time = 0; time < n; time++) {
                draw = drawBehind(draw);
                int p = (int) (draw / 65536 % 5);
                int by = draw / 128 % 2 == 1 ? 1 : -1;
                if (places[p] + by < 0 || places[p] + by > deeps[p]) continue;
                places[p] += by;
                moved++;
            }
            int state = places[0] + 4 * places[1] + 16 * places[2] + 64 * places[3] + 256 * places[4];
            due("13 drift(" + n + ")", x.drift(n), state);
            due("13 known", x.count(8), n == 1 ? 1 : n == 2 ? 3 : n == 3 ? 6 : 8);
        }
        due("13 it moved at all", moved > 300 ? 1 : 0, 1);
        due("13 the draw then", x.seed(5), draw);

        SecretBox locked = Check.made("p1,p1;0=11,1=01");
        due("13 nothing may", locked.drift(40), 0);
        due("13 known all the same", locked.count(8), 8);
        SecretBox sprung = Check.made("s3,s3");
        SecretBox alike = Check.made("s3,s3");
        draw = 1;
        for (int time = 0; time < 30; time++) {
            draw = drawBehind(draw);
            alike.slide((int) (draw / 65536 % 2), (int) (draw / 128 % 2));
            due("13 sprung ones slip", sprung.drift(1), alike.count(7));
        }
    }

    private static void driftsWithoutPanels() {
        SecretBox x = new SecretBox();
        due("13 no panels", x.drift(2), 0);
        due("13 each may be undone", x.count(8), 2);
        long once = drawBehind(1);
        due("13 the draw goes on", x.seed(0), drawBehind(once));
        x.undo();
        due("13 undone", x.seed(0), once);
        x.undo();
        due("13 undone", x.seed(0), 1);
    }

    private static void undone() {
        SecretBox x = new SecretBox();
        due("14 none", x.undo(), SecretBox.NONE);
        Check.read(x, "p3,s2;0<10");
        due("14 none yet", x.undo(), SecretBox.NONE);
        Check.slides(x, 11, 11, 1);
        x.file(0);
        x.shut();
        x.drift(2);
        due("14 known", x.count(8), 7);
        due("14 a drift", x.undo(), 6);
        due("14 a drift", x.undo(), 5);
        due("14 all in", x.count(7), 0);
        due("14 the draw", x.seed(1), 1);
        due("14 shut", x.undo(), 4);
        due("14 it had slipped", x.count(7), 5);
        due("14 filed", x.count(5), 1);
        due("14 the file", x.undo(), 3);
        due("14 not filed", x.count(5), 0);
        due("14 a slide", x.undo(), 2);
        due("14 it had not slipped", x.count(7), 8);
        due("14 a slide", x.undo(), 1);
        due("14 a slide", x.undo(), 0);
        due("14 all in", x.count(7), 0);
        due("14 none any more", x.undo(), SecretBox.NONE);
    }

    private static void eightAreKnown() {
        SecretBox x = Check.made("p1,p1");
        int[] states = {1, 5, 4, 0, 4, 5, 1, 0, 1, 5, 4};
        int[] slides = {1, 11, 0, 10, 11, 1, 10, 0, 1, 11, 0};
        for (int k = 0; k < slides.length; k++) {
            due("14 slide " + k, Check.slides(x, slides[k]), states[k]);
            due("14 known", x.count(8), Math.min(8, k + 1));
        }
        for (int k = 7; k >= 0; k--) {
            due("14 undone " + k, x.undo(), k);
            due("14 as ahead of it", x.count(7), states[k + 2]);
        }
        due("14 older ones are lost", x.undo(), SecretBox.NONE);
        due("14 nothing is changed", x.count(7), 4);
        due("14 anew", Check.slides(x, 10), 0);
        due("14 anew", x.undo(), 0);
        due("14 anew", x.count(7), 4);
    }

    private static void undoneWhateverWasTold() {
        SecretBox x = Check.made("p2,p1;0>10");
        x.seed(77);
        Check.slides(x, 1);
        x.seed(99);
        x.lid(1);
        due("14 undone", x.undo(), 0);
        due("14 the draw as ahead of it", x.seed(3), 77);
        due("14 the lid stays", x.count(2), 1);
        x.file(0);
        x.seed(4);
        x.undo();
        due("14 the draw of a file", x.seed(5), 3);
        Check.slides(x, 1);
        x.lock(1, 0, 0, 1);
        due("14 a new lock", x.undo(), SecretBox.NONE);
        due("14 a new lock", x.count(7), 1);
        x.shut();
        x.panel(0, 1);
        due("14 a new panel", x.undo(), SecretBox.NONE);
        Check.slides(x, 1);
        Check.read(x, "p1");
        due("14 a box", x.undo(), SecretBox.NONE);
        Check.slides(x, 1);
        Check.read(x, "p");
        due("14 a fault", x.undo(), 0);
    }

    private static void seeds() {
        SecretBox x = new SecretBox();
        due("15 below", x.seed(-1), SecretBox.BAD);
        due("15 far below", x.seed(Integer.MIN_VALUE), SecretBox.BAD);
        due("15 at first", x.seed(0), 1);
        due("15 least", x.seed(Integer.MAX_VALUE), 0);
        due("15 most", x.seed(12), Integer.MAX_VALUE);
        due("15 nothing to be undone", x.count(8), 0);
        Check.read(x, "p3");
        for (int v = 0; v < 2000; v += 13) {
            x.seed(v);
            x.drift(1);
            due("15 a drift by " + v, x.seed(0), drawBehind(v));
        }
        x.seed(Integer.MAX_VALUE);
        x.drift(1);
        due("15 a drift by the most", x.seed(0), drawBehind(Integer.MAX_VALUE));
    }
}
