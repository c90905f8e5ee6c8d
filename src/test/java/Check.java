/** Counts the answers of a test, and prints each that is not the one that is due. */
final class Check {
    private final String name;
    private int asked = 0;
    private int wrong = 0;

    Check(String name) {
        this.name = name;
    }

    void due(String call, long got, long want) {
        asked++;
        if (got == want) return;
        wrong++;
        System.out.println(name + ": " + call + " answered " + got + ", due is " + want);
    }

    boolean isWrong() {
        return wrong != 0;
    }

    void end() {
        System.out.println(name + ": " + asked + " answers, " + wrong + " not as due");
        if (asked == 0 || wrong != 0) System.exit(1);
    }

    /** A new object whose box is read from a text. */
    static SecretBox made(String text) {
        SecretBox x = new SecretBox();
        read(x, text);
        return x;
    }

    static int read(SecretBox x, String text) {
        for (int k = 0; k < text.length(); k++) x.type(text.charAt(k));
        return x.box();
    }

    /** Does all of these SLIDES; the last answer. */
    static int slides(SecretBox x, int... slides) {
        int answer = 0;
        for (int slide : slides) answer = x.slide(slide / 10, slide % 10);
        return answer;
    }

    /** SHEET 0 becomes a row of ints. */
    static void ints(SecretBox x, int... items) {
        x.sheet(0, 2, items.length);
        for (int i = 0; i < items.length; i++) x.item(0, 2, i, items[i]);
    }
}
