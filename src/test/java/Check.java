/** Counts the answers of a test, and prints each that is not the one that is due. */
final class Check {
    private final String name;
    private String sentence = "";
    private int asked = 0;
    private int wrong = 0;

    Check(String name) {
        this.name = name;
    }

    /** What is asked from here on is asked for these words of the document. */
    void under(String words) {
        sentence = " \"" + words + "\"";
    }

    void due(String call, long got, long want) {
        asked++;
        if (got == want) return;
        wrong++;
        System.out.println(name + sentence + ": " + call + " answered " + got + ", due is " + want);
    }

    int asked() {
        return asked;
    }

    boolean isWrong() {
        return wrong != 0;
    }

    void end() {
        System.out.println(name + ": " + asked + " answers, " + wrong + " not as due");
        if (asked == 0 || wrong != 0) System.exit(1);
    }

    /** A new object whose box is read from a text; "": one without panels. */
    static SecretBox made(String text) {
        SecretBox x = new SecretBox();
        if (!text.isEmpty()) read(x, text);
        return x;
    }

    static int read(SecretBox x, String text) {
        for (int k = 0; k < text.length(); k++) x.type(text.charAt(k));
        return x.box();
    }

    /** Does all of these SLIDES; the last answer. */
    static int slides(SecretBox x, int... slides) {
        int answer = 0;
        for (int slide : slides) answer = x.slide(slide / 10, slide % 10);
        return answer;
    }

    /** SHEET 0 becomes a row of ints. */
    static void ints(SecretBox x, int... items) {
        x.sheet(0, 2, items.length);
        for (int i = 0; i < items.length; i++) x.item(0, 2, i, items[i]);
    }

    /** All that is told of panels and locks, and the draw: some 70 calls that change nothing. */
    static String seen(SecretBox x) {
        StringBuilder seen = new StringBuilder();
        for (int what = 0; what <= 8; what++) seen.append(x.count(what)).append(' ');
        for (int p = 0; p < x.count(0); p++) {
            for (int what = 0; what <= 4; what++) seen.append(x.of(p, what)).append(' ');
        }
        for (int l = 0; l < x.count(1); l++) {
            for (int what = 0; what <= 5; what++) seen.append(x.at(l, what)).append(' ');
        }
        int draw = x.seed(0);
        x.seed(draw);
        return seen.append(draw).toString();
    }
}
