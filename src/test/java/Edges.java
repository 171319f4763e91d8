import java.util.function.Supplier;
import java.util.function.ToIntFunction;

/** What the tests of boundary cases share: numbers beside a range, ready objects, a look at all of an object. */
final class Edges {
    static final int ROWS = 36;
    static final int FULL = 10;
    /** 10 to the power of the index. */
    static final long[] TEN_TO = {1L, 10L, 100L, 1_000L, 10_000L, 100_000L, 1_000_000L, 10_000_000L, 100_000_000L,
        1_000_000_000L, 10_000_000_000L};

    private Edges() {
    }

    static int relation(int row) {
        return row / 9;
    }

    static int a(int row) {
        return row / 3 % 3;
    }

    static int b(int row) {
        return row % 3;
    }

    static String triple(int relation, int a, int b) {
        return "(" + relation + ", " + a + ", " + b + ")";
    }

    /**
     * Numbers outside 0 to most: next to it, the ends of int, and such as come back into the range if they are
     * narrowed to a byte or a short, used to shift by, or multiplied by 9 or 3 with wrap-around.
     */
    static int[] beside(int most) {
        return new int[] {Integer.MIN_VALUE, Integer.MIN_VALUE + 1, -1431655765, -65536, -65535, -256, -255, -32, -31,
            -3, -2, -1, most + 1, most + 2, most + 3, 32, 33, 256, 257, 65536, 65537, 954437177, 1073741824, 1431655766,
            Integer.MAX_VALUE - 1, Integer.MAX_VALUE};
    }

    static LiftedOdds empty() {
        return new LiftedOdds();
    }

    /** Four rows, those of weight 0 and 10 among them, and a query of two atoms that holds in some worlds. */
    static LiftedOdds some() {
        LiftedOdds x = new LiftedOdds();
        x.row(0, 0, 1, 4);
        x.row(0, 2, 2, 0);
        x.row(1, 1, 1, 7);
        x.row(3, 2, 0, 10);
        x.atom(0, 0, 1);
        x.atom(1, 1, 1);
        return x;
    }

    /** Ten rows, so that no other can be listed, and four atoms, so that no other can be asked. */
    static LiftedOdds full() {
        LiftedOdds x = new LiftedOdds();
        for (int k = 0; k < FULL; k++) {
            int row = fullRow(k);
            x.row(relation(row), a(row), b(row), k + 1);
        }
        x.atom(3, 1, 0);
        x.atom(0, 0, 1);
        x.atom(2, 2, 2);
        x.atom(1, 1, 2);
        return x;
    }

    /** The k-th row of full(): rows of every relation, the first row and the last among them. */
    static int fullRow(int k) {
        return k == 9 ? 35 : k * 4;
    }

    /** As many rows of one weight, from the first one on; the query is empty. */
    static LiftedOdds listed(int count, int weight) {
        LiftedOdds x = new LiftedOdds();
        for (int row = 0; row < count; row++) {
            x.row(relation(row), a(row), b(row), weight);
        }
        return x;
    }

    /** The call answers -1 and leaves all as it is: for an object that is new, one in use and one that is full. */
    static void refused(Checks checks, String call, ToIntFunction<LiftedOdds> made) {
        refusedIn(checks, "new: " + call, Edges::empty, made);
        refusedIn(checks, "in use: " + call, Edges::some, made);
        refusedIn(checks, "full: " + call, Edges::full, made);
    }

    static void refusedIn(Checks checks, String call, Supplier<LiftedOdds> state, ToIntFunction<LiftedOdds> made) {
        LiftedOdds x = state.get();
        checks.due(call, made.applyAsInt(x), -1);
        checks.due("all that can be seen after " + call, look(x), look(state.get()));
    }

    /** Every answer that tells something of the object; uses it up, in 116 calls. */
    static String look(LiftedOdds x) {
        StringBuilder seen = new StringBuilder();
        seen.append(x.weight()).append(' ').append(x.worlds()).append(' ');
        seen.append(x.heaviest()).append(' ').append(x.nested());
        for (int row = 0; row < ROWS; row++) {
            seen.append(' ').append(x.weightWith(relation(row), a(row), b(row)));
            seen.append('/').append(x.weightWithout(relation(row), a(row), b(row)));
        }
        for (int relation = 0; relation < 4; relation++) {
            seen.append(' ').append(x.atom(relation, 0, 0));
        }
        for (int row = 0; row < ROWS; row++) {
            seen.append(' ').append(x.drop(relation(row), a(row), b(row)));
        }
        return seen.toString();
    }
}
