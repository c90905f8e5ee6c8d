import java.io.IOException;
import java.nio.file.Files;
import java.nio.file.Path;

/** What the document says ahead of its "Terms", in its words and order: what the class is, how long it serves, its face. */
public final class PrefaceTest {
    private static final int NONE = SecretBox.NONE, NULL = SecretBox.NULL;
    private static final String SOURCE = "src/main/java/SecretBox.java";
    /** A sprung panel ahead of a plain lid, which slides out only while that one is out. */
    private static final String TEXT = "s1,p2!;1>01";
    private static final String[] FACE = {
        "public SecretBox();", "public int panel(int kind, int deep);", "public int lock(int panel, int way, int other, int places);",
        "public int lid(int panel);", "public int of(int panel, int what);", "public int at(int lock, int what);",
        "public int type(int letter);", "public int box();", "public int count(int what);", "public int slide(int panel, int way);",
        "public int shut();", "public int file(int lock);", "public int drift(int n);", "public int undo();", "public int seed(int v);",
        "public int opens(int k);", "public int rows();", "public int reach(int what);", "public int key(int what);",
        "public int files(int n, int what);", "public int game(int what);", "public long fumble(int n, int what);",
        "public int image();", "public int restore();", "public int to(int sheet, int lane, int i, int k);",
        "public int clicks(int panel, int sheet, int lane, int i, int n);", "public int film(int sheet, int lane, int i);",
        "public int sheet(int sheet, int lane, int n);", "public int drop(int sheet);",
        "public int item(int sheet, int lane, int i, long v);", "public int copy(int from, int i, int to, int j, int n);"};

    private static final Check check = new Check("PrefaceTest");
    private static final Reading doc = new Reading(check, "# SecretBox", "## Terms");

    public static void main(String[] args) throws IOException {
        panelsAndLocks();
        whatIsDone();
        foretold();
        whatClicked();
        texts();
        howLong();
        face(Files.readString(Path.of(SOURCE)));
        doc.end();
        check.end();
    }

    private static void due(String call, long got, long want) {
        check.due(call, got, want);
    }

    private static void panelsAndLocks() {
        doc.edge("# SecretBox ## What it is A box of secret panels: panels that slide out and in by steps, each hidden in the other's way;");
        SecretBox x = Check.made(TEXT);
        due("hidden", x.slide(1, 1), SecretBox.NOT);
        due("out", x.slide(0, 1), 1);
        due("in", x.slide(0, 0), 0);

        doc.edge("kinds of panels, plain ones, sprung ones that slip back when another one slides, rings that need the one ahead of "
            + "them out and all others in, latches, bolts;");
        SecretBox kinds = Check.made("p1,s1,r1,l2,b1");
        for (int p = 0; p < 5; p++) due("kind of " + p, kinds.of(p, 0), p);
        Check.slides(kinds, 11, 31);
        due("the sprung one slips back", kinds.of(1, 2), 0);
        due("no ring", kinds.of(2, 4), 0);
        Check.slides(kinds, 11);
        due("the latch slips back", kinds.of(3, 2), 0);
        due("a ring", kinds.of(2, 4), 1);
        due("no bolt", kinds.of(4, 4), 0);

        doc.edge("locks by which one slides only if another one is at a told place;");
        due("not at it", x.at(0, 5) * 10 + x.of(1, 4), 0);
        x.slide(0, 1);
        due("at it", x.at(0, 5) * 10 + x.of(1, 4), 11);

        doc.edge("a lid;");
        due("the lid", x.lid(0), 1);
        due("open by another one", x.count(3), 1);
    }

    private static void whatIsDone() {
        doc.edge("slid, shut, locks filed off, fumbled at by draws, undone;");
        SecretBox x = Check.made(TEXT);
        due("slid", x.slide(0, 1), 1);
        due("shut", x.shut(), 1);
        due("filed", x.file(0), 1);
        // The first draw is 1103527590: by 65536 it is 16838, panel 0; by 128 it is 8621309, out.
        due("fumbled at", x.drift(1), 1);
        due("the draw", x.seed(1), 1103527590);
        for (int left = 3; left >= 0; left--) due("undone", x.undo(), left);
        due("all undone", x.count(7) * 100 + x.count(5) * 10 + x.count(8), 0);
    }

    private static void foretold() {
        doc.edge("the fewest slides that open it, how many such rows there are, how many places it can come to, how far the farthest is, "
            + "which are dead, the fewest slides to a told place;");
        SecretBox x = Check.made(TEXT);
        due("the fewest slides", x.opens(-1), 4);
        int[] row = {1, 11, 1, 11};
        for (int k = 0; k < 4; k++) due("slide " + k, x.opens(k), row[k]);
        due("rows", x.rows(), 1);
        due("states", x.reach(0), 6);
        due("the farthest", x.reach(1), 5);
        due("dead", x.reach(2), 0);
        Check.ints(x, 1, 1);
        due("to a told place", x.to(0, 2, 0, -1), 3);

        doc.edge("which lock holds most, the fewest to be filed off;");
        due("the lock", x.key(0), 0);
        due("how many slides", x.key(1), 2);
        due("to be filed for 3", x.files(3, 0), 1);
        due("to be filed for 4", x.files(4, 0), 0);

        doc.edge("two who slide by turns, solved back from the end;");
        due("neither wins", x.game(0) * 100 + x.game(1) * 10 + x.game(2), 1);
        Check.slides(x, 1, 11, 1);
        due("who is to slide wins", x.game(0) * 100 + x.game(1) * 10 + x.game(2), 121);
    }

    private static void whatClicked() {
        doc.edge("which lock is otherwise, of which kind a panel is, by what clicked;");
        SecretBox x = Check.made(TEXT);
        Check.ints(x, 11, 1);
        due("which lock", x.clicks(NONE, 0, 2, 0, 1), 1);
        Check.ints(x, 1, 1, 11, 1, 0, 0);
        due("which kind", x.clicks(0, 0, 2, 0, 3), 2);

        doc.edge("the odds of fumbling;");
        Check.slides(x, 1, 11);
        due("above", x.fumble(2, 0), 1);
        due("below", x.fumble(2, 1), 6);
    }

    private static void texts() {
        doc.edge("boxes as texts; images; sheets that may be missing.");
        SecretBox x = new SecretBox();
        due("a text", Check.read(x, TEXT), 2);
        due("an image", x.image(), 1);
        Check.slides(x, 1);
        due("as it was then", x.restore() * 10 + x.count(7), 10);
        due("a missing sheet", x.drop(0), NULL);
        due("a missing sheet", x.film(0, 0, 0), NULL);
    }

    private static void howLong() {
        doc.edge("An object is used for at most 512 calls after it has been made; what later calls answer is free.");
        String text = "p2,s3,b3,s3,r3!;3>22,1>02";
        SecretBox x = Check.made(text);
        long[] first = new long[8];
        for (int call = text.length() + 2; call <= 512; call++) {
            int which = call % 8;
            long answer = dear(x, which);
            if (call < text.length() + 10) first[which] = answer;
            due("call " + call, answer, first[which]);
        }
        due("the fewest slides", first[0], 66);
    }

    private static long dear(SecretBox x, int which) {
        switch (which) {
            case 0: return x.opens(-1);
            case 1: return x.rows();
            case 2: return x.reach(2);
            case 3: return x.key(1);
            case 4: return x.files(60, 0);
            case 5: return x.game(1);
            case 6: return x.fumble(3, 1);
            default: return x.image();
        }
    }

    private static void face(String source) {
        doc.edge("## The public face public final class SecretBox {");
        due("the class", source.contains("public final class SecretBox {") ? 1 : 0, 1);
        String constants = "public static final int BAD = -1, NOT = -2, FULL = -3, NONE = -4, NULL = -11, CAST = -12, INDEX = -13, SIZE = -14;";
        doc.edge(constants);
        due("the constants", source.contains(constants) ? 1 : 0, 1);
        for (String call : FACE) {
            doc.edge(call);
            due("the source has it", source.contains("    " + call.substring(0, call.length() - 1) + " {\n") ? 1 : 0, 1);
        }
        doc.noEdge("}");
    }
}
