/** Promises 4 to 6: atom, clearQuery and nested. */
public final class QueryTest {
    private static final int LEAST = Integer.MIN_VALUE;
    private static final int MOST = Integer.MAX_VALUE;
    private static final Checks checks = new Checks();

    public static void main(String[] args) {
        atomCounts();
        atomRefusesWrongArguments();
        atomKeepsTheFirstOfARelation();
        atomKeepsTheOrderOfItsVariables();
        clearQueryEmptiesTheQueryAlone();
        nestedOfSmallQueries();
        nestedOfChains();
        nestedIgnoresRows();
        checks.end();
    }

    private static LiftedOdds query(int... atoms) {
        LiftedOdds x = new LiftedOdds();
        for (int k = 0; k < atoms.length; k += 3) {
            checks.due("atom " + k / 3, x.atom(atoms[k], atoms[k + 1], atoms[k + 2]), k / 3 + 1);
        }
        return x;
    }

    private static void atomCounts() {
        LiftedOdds x = query(3, 2, 2, 0, 0, 1, 2, 1, 0, 1, 2, 1);
        for (int relation = 0; relation < 4; relation++) {
            checks.due("fifth atom", x.atom(relation, 0, 0), -1);
        }
    }

    private static void atomRefusesWrongArguments() {
        LiftedOdds x = new LiftedOdds();
        int[] wrongRelations = {LEAST, -1, 4, 5, MOST};
        int[] wrongVariables = {LEAST, -1, 3, 4, MOST};
        for (int k = 0; k < 5; k++) {
            checks.due("atom of a wrong relation", x.atom(wrongRelations[k], 0, 0), -1);
            checks.due("atom of a wrong u", x.atom(0, wrongVariables[k], 0), -1);
            checks.due("atom of a wrong v", x.atom(0, 0, wrongVariables[k]), -1);
        }
        checks.due("weight after refusals", x.weight(), 1);
        checks.due("atom after refusals", x.atom(0, 2, 2), 1);
        checks.due("wrong atom of a relation that is asked", x.atom(0, 3, 0), -1);
        checks.due("weight with an atom and no row", x.weight(), 0);
    }

    private static void atomKeepsTheFirstOfARelation() {
        LiftedOdds x = query(0, 0, 0);
        x.row(0, 0, 1, 4);
        checks.due("second atom of a relation", x.atom(0, 0, 1), -1);
        checks.due("weight by the first atom", x.weight(), 0);
        checks.due("atom of another relation", x.atom(1, 0, 1), 2);
    }

    private static void atomKeepsTheOrderOfItsVariables() {
        LiftedOdds x = query(0, 0, 1, 1, 0, 1);
        x.row(0, 0, 1, 4);
        x.row(1, 1, 0, 4);
        checks.due("weight of atoms in the same order", x.weight(), 0);
        LiftedOdds y = query(0, 0, 1, 1, 1, 0);
        y.row(0, 0, 1, 4);
        y.row(1, 1, 0, 4);
        checks.due("weight of atoms in opposite order", y.weight(), 16);
    }

    private static void clearQueryEmptiesTheQueryAlone() {
        LiftedOdds x = query(0, 0, 1, 1, 1, 1, 2, 0, 0);
        x.row(3, 0, 0, 6);
        checks.due("weight before clearing", x.weight(), 0);
        checks.due("nested before clearing", x.nested(), false);
        x.clearQuery();
        checks.due("weight after clearing", x.weight(), 10);
        checks.due("nested after clearing", x.nested(), true);
        checks.due("weightWith after clearing", x.weightWith(3, 0, 0), 6);
        x.clearQuery();
        checks.due("atom after clearing twice", x.atom(0, 2, 2), 1);
        checks.due("nested after one atom", x.nested(), true);
        checks.due("atom after that", x.atom(3, 2, 2), 2);
        checks.due("row after clearing", x.row(0, 0, 0, 5), 2);
        checks.due("weight of the new query", x.weight(), 30);
    }

    private static void nestedOfSmallQueries() {
        checks.due("nested, empty", query().nested(), true);
        for (int u = 0; u < 3; u++) {
            for (int v = 0; v < 3; v++) {
                checks.due("nested, one atom", query(1, u, v).nested(), true);
            }
        }
        checks.due("nested, no atom in common", query(0, 0, 0, 1, 1, 1, 2, 2, 2).nested(), true);
        checks.due("nested, equal sets", query(0, 0, 1, 1, 1, 0).nested(), true);
        checks.due("nested, one holds the other", query(0, 0, 1, 1, 0, 0).nested(), true);
        checks.due("nested, the other holds the one", query(0, 0, 1, 1, 1, 1).nested(), true);
        checks.due("nested, star", query(0, 1, 0, 1, 1, 2).nested(), true);
    }

    private static void nestedOfChains() {
        for (int x = 0; x < 3; x++) {
            for (int y = 0; y < 3; y++) {
                boolean same = x == y;
                checks.due("nested, two ends " + x + y, query(1, x, x, 3, x, y, 2, y, y).nested(), same);
            }
        }
        checks.due("nested, triangle", query(0, 0, 1, 1, 1, 2, 2, 2, 0).nested(), false);
        checks.due("nested, chain and its end", query(0, 0, 1, 1, 1, 2, 2, 2, 2).nested(), false);
        checks.due("nested, star and its middle", query(0, 0, 1, 1, 0, 2, 2, 0, 0).nested(), true);
        checks.due("nested, star of four", query(0, 0, 1, 1, 2, 0, 2, 1, 0, 3, 0, 0).nested(), true);
        checks.due("nested, pair and single", query(0, 0, 1, 1, 1, 0, 2, 2, 2, 3, 2, 2).nested(), true);
        checks.due("nested, crossing only in 1 and 2", query(0, 1, 1, 1, 1, 2, 2, 2, 2, 3, 0, 0).nested(), false);
    }

    private static void nestedIgnoresRows() {
        LiftedOdds x = query(0, 0, 0, 1, 0, 1, 2, 1, 1);
        x.row(0, 0, 0, 10);
        checks.due("nested with a row", x.nested(), false);
        x.drop(0, 0, 0);
        checks.due("nested after a drop", x.nested(), false);
    }
}
