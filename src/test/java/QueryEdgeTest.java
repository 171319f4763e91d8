/** The boundary cases of the promises 4 to 6: atom, clearQuery and nested; a test for each sentence. */
public final class QueryEdgeTest {
    private static final Checks checks = new Checks();

    public static void main(String[] args) {
        atomRefusesARelation();
        atomRefusesAU();
        atomRefusesAV();
        atomRefusesARelationAskedAlready();
        atomCounts();
        clearQueryOfAnyLength();
        nestedOfOneVariable();
        nestedOfVariablesThatDoNotStand();
        nestedWithNoAtomInCommon();
        nestedWithOneSetInTheOther();
        notNestedWithSetsThatCross();
        nestedOfEveryQuery();
        checks.end();
    }

    private static void atomRefusesARelation() {
        checks.sentence("promise 4", "-1 and changes nothing if relation is not from 0 to 3");
        for (int relation : Edges.beside(3)) {
            Edges.refused(checks, "atom" + Edges.triple(relation, 0, 1), x -> x.atom(relation, 0, 1));
            Edges.refused(checks, "atom" + Edges.triple(relation, 2, 2), x -> x.atom(relation, 2, 2));
        }
        checks.due("relation 0", new LiftedOdds().atom(0, 0, 1), 1);
        checks.due("relation 3", new LiftedOdds().atom(3, 0, 1), 1);
    }

    private static void atomRefusesAU() {
        checks.sentence("promise 4", "-1 and changes nothing if u is not from 0 to 2");
        for (int u : Edges.beside(2)) {
            Edges.refused(checks, "atom" + Edges.triple(0, u, 1), x -> x.atom(0, u, 1));
            Edges.refused(checks, "atom" + Edges.triple(3, u, 0), x -> x.atom(3, u, 0));
        }
        checks.due("u of 0", new LiftedOdds().atom(3, 0, 1), 1);
        checks.due("u of 2", new LiftedOdds().atom(3, 2, 1), 1);
    }

    private static void atomRefusesAV() {
        checks.sentence("promise 4", "-1 and changes nothing if v is not from 0 to 2");
        for (int v : Edges.beside(2)) {
            Edges.refused(checks, "atom" + Edges.triple(0, 1, v), x -> x.atom(0, 1, v));
            Edges.refused(checks, "atom" + Edges.triple(3, 0, v), x -> x.atom(3, 0, v));
        }
        checks.due("v of 0", new LiftedOdds().atom(3, 1, 0), 1);
        checks.due("v of 2", new LiftedOdds().atom(3, 1, 2), 1);
    }

    private static void atomRefusesARelationAskedAlready() {
        checks.sentence("promise 4", "-1 and changes nothing if the query has an atom of the relation");
        for (int relation = 0; relation < 4; relation++) {
            for (int pairs = 0; pairs < 81; pairs++) {
                int u = pairs / 27;
                int v = pairs / 9 % 3;
                LiftedOdds x = pinned(relation, u, v);
                checks.due("second atom", x.atom(relation, pairs / 3 % 3, pairs % 3), -1);
                // The only row of the relation fits the first atom and no other.
                checks.due("weight() after a second atom", x.weight(), 625);
                checks.due("third atom", x.atom(relation, u, v), -1);
            }
        }
        LiftedOdds few = new LiftedOdds();
        few.atom(2, 0, 1);
        checks.due("second atom of relation 2", few.atom(2, 0, 1), -1);
        checks.due("then one of relation 1", few.atom(1, 0, 1), 2);
        checks.due("then one of relation 2, of other variables", few.atom(2, 2, 2), -1);
    }

    /** The other three relations leave each variable no value but its own number. */
    private static LiftedOdds pinned(int relation, int u, int v) {
        LiftedOdds x = new LiftedOdds();
        x.atom(relation, u, v);
        x.row(relation, u, v, 5);
        for (int variable = 0; variable < 3; variable++) {
            int other = (relation + 1 + variable) % 4;
            x.atom(other, variable, variable);
            x.row(other, variable, variable, 5);
        }
        return x;
    }

    private static void atomCounts() {
        checks.sentence("promise 4", "Otherwise answers how many atoms it has then");
        int[] orders = {0, 1, 2, 3, 3, 2, 1, 0, 2, 0, 3, 1, 1, 3, 0, 2};
        for (int start = 0; start < orders.length; start += 4) {
            LiftedOdds x = new LiftedOdds();
            for (int k = 0; k < 4; k++) {
                checks.due("refused before atom " + (k + 1), x.atom(orders[start + k], 3, 0), -1);
                checks.due("atom " + (k + 1), x.atom(orders[start + k], 2, k % 3), k + 1);
            }
        }
        LiftedOdds rows = Edges.listed(10, 5);
        checks.due("first atom with ten rows", rows.atom(3, 0, 0), 1);
    }

    private static void clearQueryOfAnyLength() {
        checks.sentence("promise 5", "Makes the query empty");
        for (int length = 0; length <= 4; length++) {
            LiftedOdds x = Edges.listed(10, 5);
            for (int k = 0; k < length; k++) {
                x.atom(3 - k, k % 3, (k + 1) % 3);
            }
            x.clearQuery();
            checks.due("worlds() after clearing " + length, x.worlds(), 1024);
            checks.due("nested() after clearing " + length, x.nested(), true);
            x.clearQuery();
            checks.due("weight() after clearing twice", x.weight(), 10_000_000_000L);
            for (int k = 0; k < 4; k++) {
                checks.due("atom after clearing " + length, x.atom(k, 0, 0), k + 1);
            }
            checks.due("fifth atom after clearing " + length, x.atom(3, 0, 0), -1);
            checks.due("the rows stay: drop", x.drop(1, 0, 0), 9);
        }
    }

    private static LiftedOdds query(int... atoms) {
        LiftedOdds x = new LiftedOdds();
        for (int k = 0; k < atoms.length; k += 3) {
            x.atom(atoms[k], atoms[k + 1], atoms[k + 2]);
        }
        return x;
    }

    private static void nestedOfOneVariable() {
        checks.sentence("promise 6", "any two different variables x and y");
        checks.due("no atom", query().nested(), true);
        for (int x = 0; x < 3; x++) {
            checks.due("one variable", query(0, x, x).nested(), true);
            checks.due("one variable in four atoms", query(0, x, x, 1, x, x, 2, x, x, 3, x, x).nested(), true);
        }
    }

    private static void nestedOfVariablesThatDoNotStand() {
        checks.sentence("promise 6", "that both stand in atoms of the query");
        for (int x = 0; x < 3; x++) {
            for (int y = 0; y < 3; y++) {
                checks.due("the third variable stands nowhere", query(3, x, y).nested(), true);
                checks.due("nor here", query(0, x, y, 1, y, x, 2, x, x).nested(), true);
            }
        }
        LiftedOdds cleared = query(0, 0, 0, 1, 0, 1, 2, 1, 1);
        cleared.clearQuery();
        cleared.atom(1, 0, 1);
        checks.due("variables of atoms that are gone", cleared.nested(), true);
        cleared.atom(0, 0, 2);
        checks.due("and then one with two others", cleared.nested(), true);
    }

    private static void nestedWithNoAtomInCommon() {
        checks.sentence("promise 6", "have no atom in common");
        for (int x = 0; x < 3; x++) {
            int y = (x + 1) % 3;
            int z = (x + 2) % 3;
            checks.due("one each", query(0, x, x, 1, y, y).nested(), true);
            checks.due("two each", query(0, x, x, 1, y, y, 2, x, x, 3, y, y).nested(), true);
            checks.due("two and one each", query(0, x, x, 1, y, y, 2, z, z, 3, x, x).nested(), true);
            checks.due("beside a pair", query(0, x, y, 1, z, z, 2, z, z).nested(), true);
        }
    }

    private static void nestedWithOneSetInTheOther() {
        checks.sentence("promise 6", "one of the two sets holds all of the other");
        for (int x = 0; x < 3; x++) {
            for (int other = 1; other < 3; other++) {
                int y = (x + other) % 3;
                int z = 3 - x - y;
                checks.due("equal sets of one", query(2, x, y).nested(), true);
                checks.due("equal sets of four", query(0, x, y, 1, y, x, 2, x, y, 3, y, x).nested(), true);
                checks.due("x in one more", query(0, x, y, 1, x, x).nested(), true);
                checks.due("x in three more", query(0, x, x, 1, x, x, 2, x, x, 3, y, x).nested(), true);
                checks.due("two variables within x", query(0, x, y, 1, z, x).nested(), true);
                checks.due("and x alone", query(0, x, y, 1, z, x, 2, x, x, 3, x, y).nested(), true);
            }
        }
    }

    private static void notNestedWithSetsThatCross() {
        checks.sentence("promise 6", "Whether the query is NESTED");
        for (int x = 0; x < 3; x++) {
            for (int other = 1; other < 3; other++) {
                int y = (x + other) % 3;
                int z = 3 - x - y;
                checks.due("one in common, one each", query(0, x, x, 1, x, y, 2, y, y).nested(), false);
                checks.due("two in common, one each", query(0, x, x, 1, x, y, 2, y, y, 3, y, x).nested(), false);
                checks.due("beside a third", query(0, x, x, 1, x, y, 2, y, y, 3, z, z).nested(), false);
                checks.due("through a third", query(3, x, y, 1, y, z, 2, z, x).nested(), false);
                checks.due("a chain", query(3, x, y, 1, y, z, 2, z, z).nested(), false);
            }
        }
    }

    /** Each relation without an atom, or with one of the nine. */
    private static void nestedOfEveryQuery() {
        checks.sentence("promise 6", "nested, of all 10000 queries");
        for (int code = 0; code < 10_000; code++) {
            LiftedOdds x = new LiftedOdds();
            PlainModel model = new PlainModel();
            int rest = code;
            for (int relation = 0; relation < 4; relation++) {
                int pair = rest % 10;
                rest /= 10;
                if (pair < 9) {
                    x.atom(relation, pair / 3, pair % 3);
                    model.atom(relation, pair / 3, pair % 3);
                }
            }
            checks.due("nested() of query " + code, x.nested(), model.nested());
        }
    }
}
