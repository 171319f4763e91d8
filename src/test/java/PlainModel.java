import java.util.ArrayList;
import java.util.HashSet;
import java.util.List;
import java.util.Set;
import java.util.TreeMap;

/** The document's words, told as plainly as the Java library allows; the answers to measure against. */
final class PlainModel {
    /** "relation a b", whose text order is the order in which listed rows are counted. */
    private final TreeMap<String, Integer> rows = new TreeMap<>();
    private final List<int[]> atoms = new ArrayList<>();

    private static boolean isRow(int relation, int a, int b) {
        return 0 <= relation && relation <= 3 && 0 <= a && a <= 2 && 0 <= b && b <= 2;
    }

    private static String name(int relation, int a, int b) {
        return relation + " " + a + " " + b;
    }

    int row(int relation, int a, int b, int weight) {
        String name = name(relation, a, b);
        if (!isRow(relation, a, b) || weight < 0 || weight > 10) {
            return -1;
        }
        if (!rows.containsKey(name) && rows.size() == 10) {
            return -1;
        }
        rows.put(name, weight);
        return rows.size();
    }

    int drop(int relation, int a, int b) {
        return rows.remove(name(relation, a, b)) == null ? -1 : rows.size();
    }

    int atom(int relation, int u, int v) {
        if (!isRow(relation, u, v) || atoms.stream().anyMatch(atom -> atom[0] == relation)) {
            return -1;
        }
        atoms.add(new int[] {relation, u, v});
        return atoms.size();
    }

    void clearQuery() {
        atoms.clear();
    }

    boolean nested() {
        List<Set<Integer>> standing = new ArrayList<>();
        for (int variable = 0; variable < 3; variable++) {
            Set<Integer> set = new HashSet<>();
            for (int[] atom : atoms) {
                if (atom[1] == variable || atom[2] == variable) {
                    set.add(atom[0]);
                }
            }
            standing.add(set);
        }
        for (Set<Integer> one : standing) {
            for (Set<Integer> other : standing) {
                Set<Integer> common = new HashSet<>(one);
                common.retainAll(other);
                if (!common.isEmpty() && !one.containsAll(other) && !other.containsAll(one)) {
                    return false;
                }
            }
        }
        return true;
    }

    private Set<String> rowsThere(int world) {
        Set<String> there = new HashSet<>();
        int bit = 1;
        for (String name : rows.keySet()) {
            if ((world & bit) != 0) {
                there.add(name);
            }
            bit *= 2;
        }
        return there;
    }

    private boolean holdsIn(Set<String> there) {
        for (int x = 0; x < 3; x++) {
            for (int y = 0; y < 3; y++) {
                for (int z = 0; z < 3; z++) {
                    int[] values = {x, y, z};
                    if (atoms.stream().allMatch(t -> there.contains(name(t[0], values[t[1]], values[t[2]])))) {
                        return true;
                    }
                }
            }
        }
        return false;
    }

    private long weightOf(Set<String> there) {
        long product = 1;
        for (String name : rows.keySet()) {
            product *= there.contains(name) ? rows.get(name) : 10 - rows.get(name);
        }
        return product;
    }

    /** weight, weightWith, weightWithout, worlds and heaviest, in this order. */
    long[] answers(int relation, int a, int b) {
        String name = name(relation, a, b);
        long[] answers = {0, 0, 0, 0, -1};
        long greatest = -1;
        for (int world = 0; world < 1 << rows.size(); world++) {
            Set<String> there = rowsThere(world);
            if (!holdsIn(there)) {
                continue;
            }
            long weight = weightOf(there);
            answers[0] += weight;
            answers[there.contains(name) ? 1 : 2] += weight;
            answers[3]++;
            if (weight > greatest) {
                greatest = weight;
                answers[4] = world;
            }
        }
        return answers;
    }
}
