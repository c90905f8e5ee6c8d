import java.util.ArrayList;
import java.util.List;

/** Many runs of drawn calls, always the same ones, on an object and on the model: each answer must be alike. */
public final class RandomRunsTest {
    private static final int RUNS = 3000;
    /** An object is used for at most 512 calls; what one drawn call leads to is fewer than 190. */
    private static final int LAST_CALL = 512 - 190;
    private static final int[] EDGES = {-1, 0, 1, 2, 3, 4, 5, 6, 7, 8, 9, 10, 23, 24, 25, 40, 41, 60, 61, Integer.MAX_VALUE, Integer.MIN_VALUE};

    private final Check check;
    private final SecretBox box = new SecretBox();
    private final Model model = new Model();
    private final int run;
    private long drawn;
    private int asked = 0;

    private RandomRunsTest(Check check, int run) {
        this.check = check;
        this.run = run;
        drawn = run * 7919L + 17;
    }

    public static void main(String[] args) {
        Check check = new Check("RandomRunsTest");
        for (int run = 0; run < RUNS && !check.isWrong(); run++) new RandomRunsTest(check, run).go();
        check.end();
    }

    /** A number 0 to n - 1. */
    private int draw(int n) {
        drawn = drawn * 6364136223846793005L + 1442695040888963407L;
        return (int) ((drawn >>> 33) % n);
    }

    private boolean oneOf(int n) {
        return draw(n) == 0;
    }

    /** Mostly low to high, at times an edge or beyond. */
    private int number(int low, int high) {
        if (oneOf(25)) return EDGES[draw(EDGES.length)];
        if (oneOf(25)) return oneOf(2) ? low - 1 : high + 1;
        return low + draw(high - low + 1);
    }

    private int aPanel() {
        return number(0, Math.max(0, model.count(0) - 1));
    }

    private int aLock() {
        return number(0, Math.max(0, model.count(1) - 1));
    }

    private void due(String call, long got, long want) {
        asked++;
        check.due("run " + run + ": " + call, got, want);
    }

    private void go() {
        int how = draw(4);
        if (how == 0) build();
        if (how == 1 || how == 2) write(text());
        for (int turn = 0; turn < LAST_CALL && asked < LAST_CALL && !check.isWrong(); turn++) oneCall();
        if (asked > 512) throw new IllegalStateException("run " + run + " has " + asked + " calls");
    }

    private void build() {
        int panels = 1 + draw(5);
        for (int p = 0; p < panels; p++) panel(draw(5), 1 + draw(3));
        int locks = draw(7);
        for (int l = 0; l < locks; l++) lock(draw(panels), draw(3), draw(panels), 1 + draw(15));
        lid(draw(panels));
    }

    private void oneCall() {
        int which = draw(100);
        if (which < 4) makeCall();
        else if (which < 45) doCall();
        else if (which < 75) foretellCall();
        else if (which < 95) sheetCall();
        else tellAll();
    }

    private void makeCall() {
        switch (draw(5)) {
            case 0: panel(number(0, 4), number(1, 3)); break;
            case 1: lock(aPanel(), number(0, 2), aPanel(), number(1, 15)); break;
            case 2: lid(aPanel()); break;
            case 3: write(oneOf(3) ? text() : spoilt(text())); break;
            default: type(number(32, 126)); break;
        }
    }

    private void doCall() {
        int which = draw(20);
        if (which < 11) {
            int panel = aPanel();
            int way = number(0, 1);
            due("slide(" + panel + ", " + way + ")", box.slide(panel, way), model.slide(panel, way));
        } else if (which == 11) {
            due("shut()", box.shut(), model.shut());
        } else if (which < 14) {
            int lock = aLock();
            due("file(" + lock + ")", box.file(lock), model.file(lock));
        } else if (which < 16) {
            int n = number(1, oneOf(3) ? 40 : 4);
            due("drift(" + n + ")", box.drift(n), model.drift(n));
        } else if (which < 19) {
            due("undo()", box.undo(), model.undo());
        } else {
            int v = number(0, Integer.MAX_VALUE - 2);
            due("seed(" + v + ")", box.seed(v), model.seed(v));
        }
        due("count(7)", box.count(7), model.count(7));
    }

    private void foretellCall() {
        int what = number(0, 2);
        int n = number(0, 3);
        switch (draw(10)) {
            case 0: opens(); break;
            case 1: due("rows()", box.rows(), model.rows()); break;
            case 2: due("reach(" + what + ")", box.reach(what), model.reach(what)); break;
            case 3: due("key(" + what + ")", box.key(what), model.key(what)); break;
            case 4: files(oneOf(2) ? n : number(0, 20), number(0, 1)); break;
            case 5: game(); break;
            case 6: due("fumble(" + n + ", " + what + ")", box.fumble(n, what), model.fumble(n, what)); break;
            case 7: due("image()", box.image(), model.image()); break;
            case 8: due("restore()", box.restore(), model.restore()); break;
            default: due("lid", box.lid(what), model.lid(what)); break;
        }
    }

    private void opens() {
        int k = number(-1, 6);
        due("opens(" + k + ")", box.opens(k), model.opens(k));
        due("opens(-1)", box.opens(-1), model.opens(-1));
    }

    private void files(int n, int what) {
        due("files(" + n + ", " + what + ")", box.files(n, what), model.files(n, what));
    }

    private void game() {
        for (int what = -1; what <= 3; what++) due("game(" + what + ")", box.game(what), model.game(what));
    }

    private void sheetCall() {
        int sheet = number(0, oneOf(3) ? 3 : 1);
        int lane = number(0, oneOf(3) ? 3 : 0);
        int i = number(0, oneOf(3) ? 24 : 3);
        int n = number(0, 24);
        switch (draw(9)) {
            case 0: due("sheet(" + sheet + ", " + lane + ", " + n + ")", box.sheet(sheet, lane, n), model.sheet(sheet, lane, n)); break;
            case 1: if (oneOf(4)) due("drop(" + sheet + ")", box.drop(sheet), model.drop(sheet)); break;
            case 2: item(sheet, lane, i, aValue()); break;
            case 3: copy(sheet, i, number(0, 3), number(0, 8), n % 8); break;
            case 4: due("film(" + sheet + ", " + lane + ", " + i + ")", box.film(sheet, lane, i), model.film(sheet, lane, i)); break;
            case 5: to(sheet, lane, i); break;
            case 6: toSomewhere(); break;
            default: clicks(sheet, lane, i); break;
        }
    }

    private long aValue() {
        if (oneOf(6)) return ((long) draw(1 << 30) << 34) + ((long) draw(4) << 31) + ((long) draw(1 << 16) << 15) + draw(1 << 15);
        if (oneOf(4)) return ((long) draw(8) << 8) + draw(4);
        return draw(4);
    }

    private void item(int sheet, int lane, int i, long v) {
        due("item(" + sheet + ", " + lane + ", " + i + ", " + v + ")", box.item(sheet, lane, i, v), model.item(sheet, lane, i, v));
    }

    private void copy(int from, int i, int to, int j, int n) {
        due("copy(" + from + ", " + i + ", " + to + ", " + j + ", " + n + ")", box.copy(from, i, to, j, n), model.copy(from, i, to, j, n));
    }

    private void to(int sheet, int lane, int i) {
        int k = number(-1, 4);
        String call = "to(" + sheet + ", " + lane + ", " + i + ", " + k + ")";
        due(call, box.to(sheet, lane, i, k), model.to(sheet, lane, i, k));
    }

    /** A sheet of places that there are, at least mostly. */
    private void toSomewhere() {
        int lane = draw(4);
        due("sheet", box.sheet(2, lane, 6), model.sheet(2, lane, 6));
        for (int p = 0; p < 5; p++) item(2, lane, p, draw(1 + Math.max(0, model.of(p, 1))));
        for (int k = -1; k < 5; k++) due("to(" + k + ")", box.to(2, lane, 0, k), model.to(2, lane, 0, k));
    }

    /** A row of pairs that is mostly so as it is, at times otherwise, at times no row at all. */
    private void clicks(int sheet, int lane, int i) {
        int n = number(1, 8);
        if (!oneOf(6)) {
            sheet = 3;
            lane = draw(4);
            i = draw(4);
            n = 1 + draw(8);
            due("sheet", box.sheet(3, lane, 2 * n + i), model.sheet(3, lane, 2 * n + i));
            for (int pair = 0; pair < n; pair++) {
                item(3, lane, i + 2 * pair, oneOf(60) ? number(-1, 52) : 10 * draw(Math.max(1, model.count(0))) + (oneOf(3) ? 0 : 1));
                item(3, lane, i + 2 * pair + 1, oneOf(60) ? number(-1, 2) : draw(2));
            }
            if (!oneOf(4)) makeSo(lane, i, n);
        }
        for (int panel = -5; panel < 6; panel++) {
            String call = "clicks(" + panel + ", " + sheet + ", " + lane + ", " + i + ", " + n + ")";
            due(call, box.clicks(panel, sheet, lane, i, n), model.clicks(panel, sheet, lane, i, n));
        }
    }

    /** Sets each answer so that the row is as it is, but for one at times. */
    private void makeSo(int lane, int i, int n) {
        int other = draw(3 * n);
        for (int pair = 0; pair < n; pair++) {
            int clicked = model.clicks(-4, 3, lane, i, pair + 1);
            boolean isSo = clicked >= 64;
            if (clicked >= 0 && !isSo) {
                int at = i + 2 * pair + 1;
                item(3, lane, at, 1);
                if (model.clicks(-4, 3, lane, i, pair + 1) < 64) item(3, lane, at, 0);
                if (pair == other) item(3, lane, at, 1);
            }
        }
    }

    private String text() {
        int panels = 1 + draw(5);
        int lid = draw(2 * panels);
        int[] deeps = new int[panels];
        List<String> told = new ArrayList<>();
        for (int p = 0; p < panels; p++) {
            deeps[p] = 1 + draw(3);
            told.add("" + "psrlb".charAt(draw(5)) + deeps[p] + (p == lid ? "!" : ""));
        }
        String text = String.join(",", told);
        int locks = panels == 1 ? 0 : draw(7);
        for (int l = 0; l < locks; l++) {
            int panel = draw(panels);
            int other = (panel + 1 + draw(panels - 1)) % panels;
            int set = 1 + draw((2 << deeps[other]) - 1);
            StringBuilder lock = new StringBuilder().append(l == 0 ? ';' : ',').append(panel).append("<>=".charAt(draw(3))).append(other);
            for (int place = 0; place < 4; place++) if ((set >> place & 1) != 0) lock.append(place);
            text += lock;
        }
        return text;
    }

    /** A text with some letters put in, taken out, put in place of others, and blanks. */
    private String spoilt(String text) {
        StringBuilder some = new StringBuilder(text);
        int times = draw(4);
        for (int time = 0; time < times; time++) {
            char letter = "psrlb0123!,;<>=  4~".charAt(draw(19));
            int at = draw(some.length() + 1);
            if (oneOf(3) || at == some.length()) some.insert(at, letter);
            else if (oneOf(2)) some.setCharAt(at, letter);
            else some.deleteCharAt(at);
        }
        if (oneOf(6)) some.setLength(draw(some.length() + 1));
        return some.toString();
    }

    private void write(String text) {
        for (int k = 0; k < text.length(); k++) type(text.charAt(k));
        due("box() of " + text, box.box(), model.box());
        tellAll();
    }

    private void type(int letter) {
        due("type(" + letter + ")", box.type(letter), model.type(letter));
    }

    private void panel(int kind, int deep) {
        due("panel(" + kind + ", " + deep + ")", box.panel(kind, deep), model.panel(kind, deep));
    }

    private void lock(int panel, int way, int other, int places) {
        due("lock(" + panel + ", " + way + ", " + other + ", " + places + ")", box.lock(panel, way, other, places),
            model.lock(panel, way, other, places));
    }

    private void lid(int panel) {
        due("lid(" + panel + ")", box.lid(panel), model.lid(panel));
    }

    private void tellAll() {
        for (int what = -1; what <= 9; what++) due("count(" + what + ")", box.count(what), model.count(what));
        for (int p = -1; p <= 5; p++) {
            for (int what = -1; what <= 5; what++) due("of(" + p + ", " + what + ")", box.of(p, what), model.of(p, what));
        }
        for (int l = -1; l <= 6; l++) {
            for (int what = -1; what <= 6; what++) due("at(" + l + ", " + what + ")", box.at(l, what), model.at(l, what));
        }
    }
}
