import java.util.function.Supplier;

/** Asks calls with numbers at the ends of what a number may be, and beyond them. */
final class Edges {
    interface Call {
        long of(SecretBox x, int v);
    }

    private Edges() {
    }

    /** From low to high v is as told; below and above it is BAD (high MAX_VALUE: there is no above). */
    static void range(Check check, String call, Supplier<SecretBox> made, Call asked, int low, int high) {
        int[] beyond = {low - 1, Integer.MIN_VALUE, high < Integer.MAX_VALUE ? high + 1 : low - 1, high < Integer.MAX_VALUE ? high + 256 : low - 1};
        for (int v : beyond) check.due(call + " of v = " + v, asked.of(made.get(), v), SecretBox.BAD);
        if (high < Integer.MAX_VALUE) check.due(call + " of the most", asked.of(made.get(), Integer.MAX_VALUE), SecretBox.BAD);
        for (int v : new int[] {low, high}) {
            check.due(call + " of v = " + v + " is not BAD", asked.of(made.get(), v) == SecretBox.BAD ? 1 : 0, 0);
        }
    }

    static void range(Check check, String call, String text, Call asked, int low, int high) {
        range(check, call, () -> Check.made(text), asked, low, high);
    }
}
