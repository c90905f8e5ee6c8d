import java.io.IOException;
import java.nio.file.Files;
import java.nio.file.Path;

/** The rows of README.md's examples answer what it tells behind them. */
public final class ReadmeTest {
    private static final Check check = new Check("ReadmeTest");
    private static String readme;
    private static int spot = 0;

    public static void main(String[] args) throws IOException {
        readme = Files.readString(Path.of("README.md"));
        SecretBox box = new SecretBox();
        int ring = box.panel(2, 1);
        row("int ring = box.panel(2, 1);", ring);
        int plain = box.panel(0, 2);
        row("int plain = box.panel(0, 2);", plain);
        row("box.lid(plain);", box.lid(plain));
        row("box.lock(plain, 1, ring, 2);", box.lock(plain, 1, ring, 2));
        row("box.opens(-1);", box.opens(-1));
        row("box.opens(0);", box.opens(0));
        row("box.slide(ring, 1);", box.slide(ring, 1));
        row("box.count(3);", box.count(3));
        row("box.undo();", box.undo());
        for (char letter : "r1,p2!;1>01".toCharArray()) box.type(letter);
        row("for (char letter : \"r1,p2!;1>01\".toCharArray()) box.type(letter);\nbox.box();", box.box());
        row("box.film(0, 2, 0);", box.film(0, 2, 0));
        row("box.sheet(0, 2, 4);", box.sheet(0, 2, 4));
        row("box.item(0, 2, 1, 2);", box.item(0, 2, 1, 2));
        row("box.to(0, 2, 0, -1);", box.to(0, 2, 0, -1));
        row("box.item(0, 2, 0, 11);", box.item(0, 2, 0, 11));
        row("box.item(0, 2, 1, 1);", box.item(0, 2, 1, 1));
        row("box.clicks(-4, 0, 2, 0, 1);", box.clicks(-4, 0, 2, 0, 1));
        check.due("rows of README.md that are not asked here", readme.indexOf("box.", spot) < 0 ? 0 : 1, 0);
        check.end();
    }

    /** The next row of README.md, and the number that stands behind it. */
    private static void row(String row, int got) {
        int next = readme.indexOf("box.", spot);
        int start = readme.indexOf(row, spot);
        check.due("does README.md tell next: " + row, start >= 0 && start <= next && next < start + row.length() ? 1 : 0, 1);
        if (start < 0) return;
        spot = start + row.length();
        String told = readme.substring(spot, readme.indexOf('\n', spot)).replaceAll("^ *// (-?\\d+).*$", "$1");
        check.due(row, got, told.matches("-?\\d+") ? Long.parseLong(told) : Long.MIN_VALUE);
    }
}
