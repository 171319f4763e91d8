/**
 * A small database whose rows are there or not by chance, and the exact chance that a yes-or-no
 * query holds. With at most 10 listed rows there are at most 1024 worlds, so every sum is taken
 * over all of them.
 */
public final class LiftedOdds {
    private static final int RELATIONS = 4;
    private static final int VALUES = 3;
    private static final int VARIABLES = 3;
    private static final int ALL_ROWS = 36;
    private static final int MOST_LISTED = 10;
    private static final int CERTAIN = 10;
    private static final int ASSIGNMENTS = 27;
    private static final int NONE = -1;

    // A row's index is relation * 9 + a * 3 + b, so ascending indices are the order in which the
    // document counts listed rows.
    private final boolean[] listed = new boolean[ALL_ROWS];
    private final int[] weights = new int[ALL_ROWS];
    private int listedCount = 0;

    // A query has at most one atom of each relation, so its atoms are kept by relation.
    private final boolean[] asked = new boolean[RELATIONS];
    private final int[] firstVariable = new int[RELATIONS];
    private final int[] secondVariable = new int[RELATIONS];
    private int atomCount = 0;

    // Worked out anew by prepare() for each question, never kept from one to the next.
    private final int[] listedRowAt = new int[MOST_LISTED];
    private final int[] bitOfRow = new int[ALL_ROWS];
    private final int[] needs = new int[ASSIGNMENTS];

    public LiftedOdds() {
    }

    public int row(int relation, int a, int b, int weight) {
        int index = rowIndex(relation, a, b);
        if (index < 0 || weight < 0 || weight > CERTAIN) {
            return NONE;
        }
        if (!listed[index]) {
            if (listedCount >= MOST_LISTED) {
                return NONE;
            }
            listed[index] = true;
            listedCount++;
        }
        weights[index] = weight;
        return listedCount;
    }

    public int drop(int relation, int a, int b) {
        int index = rowIndex(relation, a, b);
        if (index < 0 || !listed[index]) {
            return NONE;
        }
        listed[index] = false;
        listedCount--;
        return listedCount;
    }

    public int atom(int relation, int u, int v) {
        if (relation < 0 || relation >= RELATIONS || asked[relation]) {
            return NONE;
        }
        if (u < 0 || u >= VARIABLES || v < 0 || v >= VARIABLES) {
            return NONE;
        }
        asked[relation] = true;
        firstVariable[relation] = u;
        secondVariable[relation] = v;
        atomCount++;
        return atomCount;
    }

    public void clearQuery() {
        for (int relation = 0; relation < RELATIONS; relation++) {
            asked[relation] = false;
        }
        atomCount = 0;
    }

    public boolean nested() {
        for (int x = 0; x < VARIABLES; x++) {
            int atomsOfX = atomsWith(x);
            for (int y = x + 1; y < VARIABLES; y++) {
                int atomsOfY = atomsWith(y);
                int common = atomsOfX & atomsOfY;
                if (common != 0 && common != atomsOfX && common != atomsOfY) {
                    return false;
                }
            }
        }
        return true;
    }

    public long weight() {
        prepare();
        return sumOfWeights(0, 0);
    }

    public long weightWith(int relation, int a, int b) {
        prepare();
        int bit = bitOf(relation, a, b);
        return bit == 0 ? 0L : sumOfWeights(bit, bit);
    }

    public long weightWithout(int relation, int a, int b) {
        prepare();
        int bit = bitOf(relation, a, b);
        return sumOfWeights(bit, 0);
    }

    public int worlds() {
        prepare();
        int count = 0;
        int end = 1 << listedCount;
        for (int world = 0; world < end; world++) {
            if (holds(world)) {
                count++;
            }
        }
        return count;
    }

    public int heaviest() {
        prepare();
        int best = NONE;
        // Below every weight, so that a world of weight 0 can still be the heaviest.
        long bestWeight = -1L;
        int end = 1 << listedCount;
        for (int world = 0; world < end; world++) {
            if (holds(world)) {
                long found = weightOfWorld(world);
                if (found > bestWeight) {
                    best = world;
                    bestWeight = found;
                }
            }
        }
        return best;
    }

    /** NONE if there is no such row. */
    private static int rowIndex(int relation, int a, int b) {
        if (relation < 0 || relation >= RELATIONS) {
            return NONE;
        }
        if (a < 0 || a >= VALUES || b < 0 || b >= VALUES) {
            return NONE;
        }
        return (relation * VALUES + a) * VALUES + b;
    }

    /** The atoms in which the variable stands, as a set of bits, one for each relation. */
    private int atomsWith(int variable) {
        int atoms = 0;
        for (int relation = 0; relation < RELATIONS; relation++) {
            boolean stands = firstVariable[relation] == variable || secondVariable[relation] == variable;
            if (asked[relation] && stands) {
                atoms |= 1 << relation;
            }
        }
        return atoms;
    }

    private void prepare() {
        numberListedRows();
        for (int assignment = 0; assignment < ASSIGNMENTS; assignment++) {
            needs[assignment] = needOf(assignment);
        }
    }

    private void numberListedRows() {
        int count = 0;
        for (int index = 0; index < ALL_ROWS; index++) {
            bitOfRow[index] = 0;
            if (listed[index] && count < MOST_LISTED) {
                bitOfRow[index] = 1 << count;
                listedRowAt[count] = index;
                count++;
            }
        }
    }

    /** The rows that the atoms ask for under the assignment, or NONE if one of them is not listed. */
    private int needOf(int assignment) {
        int need = 0;
        for (int relation = 0; relation < RELATIONS; relation++) {
            if (asked[relation]) {
                int a = valueIn(assignment, firstVariable[relation]);
                int b = valueIn(assignment, secondVariable[relation]);
                int bit = bitOf(relation, a, b);
                if (bit == 0) {
                    return NONE;
                }
                need |= bit;
            }
        }
        return need;
    }

    /** An assignment is a number of three digits to the base 3, one for each variable. */
    private static int valueIn(int assignment, int variable) {
        int rest = assignment;
        for (int passed = 0; passed < variable; passed++) {
            rest /= VALUES;
        }
        return rest % VALUES;
    }

    /** The bit of the row in a world's number; 0 if it is not listed or there is no such row. */
    private int bitOf(int relation, int a, int b) {
        int index = rowIndex(relation, a, b);
        return index < 0 ? 0 : bitOfRow[index];
    }

    /** Over the worlds where the query holds and the rows of the mask are as in the pattern. */
    private long sumOfWeights(int mask, int pattern) {
        long sum = 0L;
        int end = 1 << listedCount;
        for (int world = 0; world < end; world++) {
            if ((world & mask) == pattern && holds(world)) {
                sum += weightOfWorld(world);
            }
        }
        return sum;
    }

    private boolean holds(int world) {
        for (int assignment = 0; assignment < ASSIGNMENTS; assignment++) {
            int need = needs[assignment];
            if (need != NONE && (world & need) == need) {
                return true;
            }
        }
        return false;
    }

    private long weightOfWorld(int world) {
        long product = 1L;
        for (int k = 0; k < listedCount && k < MOST_LISTED; k++) {
            int chance = weights[listedRowAt[k]];
            boolean there = (world >> k & 1) == 1;
            product *= there ? chance : CERTAIN - chance;
        }
        return product;
    }
}
