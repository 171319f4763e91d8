/** The boundary cases of 'Terms', and of the calls that an object is used for; a test for each sentence. */
public final class TermsEdgeTest {
    private static final Checks checks = new Checks();

    public static void main(String[] args) {
        relationsAndValues();
        weightsAreChances();
        chancesAreIndependent();
        rowsNotListedAreNeverThere();
        atMostTenRows();
        eachRowOnce();
        weightOfTheWorldWithoutRows();
        weightsOfAllWorldsAddUp();
        atMostFourAtoms();
        variablesOfAnAtom();
        valuesOfTheVariables();
        everyAtomCounts();
        emptyQueryHolds();
        amountsFitALong();
        lastCallsAreAnswered();
        checks.end();
    }

    private static void relationsAndValues() {
        checks.sentence("ROWS", "four relations, 0 to 3, each of rows (a, b) with a and b from 0 to 2");
        for (int relation = -2; relation <= 6; relation++) {
            for (int a = -2; a <= 5; a++) {
                for (int b = -2; b <= 5; b++) {
                    LiftedOdds x = new LiftedOdds();
                    boolean is = relation >= 0 && relation <= 3 && a >= 0 && a <= 2 && b >= 0 && b <= 2;
                    String triple = Edges.triple(relation, a, b);
                    checks.due("row" + triple, x.row(relation, a, b, 4), is ? 1 : -1);
                    checks.due("weightWith" + triple, x.weightWith(relation, a, b), is ? 4 : 0);
                    checks.due("weightWithout" + triple, x.weightWithout(relation, a, b), is ? 6 : 1);
                    checks.due("worlds() after row" + triple, x.worlds(), is ? 2 : 1);
                    checks.due("drop" + triple, x.drop(relation, a, b), is ? 0 : -1);
                }
            }
        }
    }

    private static void weightsAreChances() {
        checks.sentence("ROWS", "a weight w from 0 to 10; there with the chance w in 10 and absent with 10 - w in 10");
        for (int w = 0; w <= 10; w++) {
            LiftedOdds x = new LiftedOdds();
            checks.due("row of weight " + w, x.row(2, 1, 1, w), 1);
            checks.due("there, weight " + w, x.weightWith(2, 1, 1), w);
            checks.due("absent, weight " + w, x.weightWithout(2, 1, 1), 10 - w);
            x.atom(2, 0, 0);
            checks.due("asked for, weight " + w, x.weight(), w);
        }
    }

    private static void chancesAreIndependent() {
        checks.sentence("ROWS", "whatever the others do");
        for (int w = 0; w <= 10; w++) {
            for (int other = 0; other <= 10; other++) {
                LiftedOdds x = new LiftedOdds();
                x.row(0, 0, 0, w);
                x.row(3, 2, 2, other);
                checks.due("there, weights " + w + " " + other, x.weightWith(0, 0, 0), 10 * w);
                checks.due("absent, weights " + w + " " + other, x.weightWithout(0, 0, 0), 100 - 10 * w);
                x.atom(3, 0, 0);
                checks.due("both there, weights " + w + " " + other, x.weightWith(0, 0, 0), w * other);
                checks.due("one there, weights " + w + " " + other, x.weightWithout(0, 0, 0), (10 - w) * other);
            }
        }
    }

    private static void rowsNotListedAreNeverThere() {
        checks.sentence("ROWS", "Rows that are not listed are never there");
        for (int relation = 0; relation < 4; relation++) {
            for (int value = 0; value < 3; value++) {
                LiftedOdds x = new LiftedOdds();
                for (int row = 9 * relation; row < 9 * relation + 9; row++) {
                    if (Edges.a(row) != Edges.b(row)) {
                        x.row(relation, Edges.a(row), Edges.b(row), 10);
                    }
                }
                x.atom(relation, 1, 1);
                neverHolds("only others listed", x);
                x.row(relation, value, value, 10);
                x.drop(relation, value, value);
                neverHolds("dropped", x);
                x.row(relation, value, value, 11);
                neverHolds("refused", x);
            }
        }
    }

    private static void neverHolds(String state, LiftedOdds x) {
        checks.due(state + ": weight()", x.weight(), 0);
        checks.due(state + ": worlds()", x.worlds(), 0);
        checks.due(state + ": heaviest()", x.heaviest(), -1);
    }

    private static void atMostTenRows() {
        checks.sentence("ROWS", "At most 10 rows are listed");
        for (int first = 0; first < Edges.ROWS; first++) {
            LiftedOdds x = new LiftedOdds();
            for (int k = 0; k < Edges.ROWS; k++) {
                int row = (first + k) % Edges.ROWS;
                int got = x.row(Edges.relation(row), Edges.a(row), Edges.b(row), 5);
                checks.due("row number " + (k + 1) + " from row " + first + " on", got, k < 10 ? k + 1 : -1);
            }
            checks.due("worlds() after all rows from row " + first + " on", x.worlds(), 1024);
            for (int k = 0; k < Edges.ROWS; k++) {
                int row = (first + k) % Edges.ROWS;
                int got = x.drop(Edges.relation(row), Edges.a(row), Edges.b(row));
                checks.due("drop number " + (k + 1) + " from row " + first + " on", got, k < 10 ? 9 - k : -1);
            }
        }
    }

    private static void eachRowOnce() {
        checks.sentence("ROWS", "each (relation, a, b) at most once");
        for (int row = 0; row < Edges.ROWS; row++) {
            LiftedOdds x = new LiftedOdds();
            for (int time = 0; time < 12; time++) {
                checks.due("row listed again", x.row(Edges.relation(row), Edges.a(row), Edges.b(row), 3), 1);
            }
            checks.due("worlds() of one row", x.worlds(), 2);
            checks.due("weight() of one row", x.weight(), 10);
            checks.due("drop", x.drop(Edges.relation(row), Edges.a(row), Edges.b(row)), 0);
            checks.due("drop again", x.drop(Edges.relation(row), Edges.a(row), Edges.b(row)), -1);
        }
    }

    private static void weightOfTheWorldWithoutRows() {
        checks.sentence("WORLD", "1 if no row is listed");
        LiftedOdds x = new LiftedOdds();
        checks.due("new: weight()", x.weight(), 1);
        x.row(3, 2, 2, 10);
        x.drop(3, 2, 2);
        checks.due("after a drop: weight()", x.weight(), 1);
        checks.due("after a drop: weightWithout", x.weightWithout(3, 2, 2), 1);
    }

    private static void weightsOfAllWorldsAddUp() {
        checks.sentence("WORLD", "add up to 10 to the power of the number of listed rows");
        for (int count = 0; count <= 10; count++) {
            for (int weight = 0; weight <= 10; weight++) {
                LiftedOdds x = Edges.listed(count, weight);
                checks.due(count + " rows of weight " + weight, x.weight(), Edges.TEN_TO[count]);
            }
            LiftedOdds mixed = new LiftedOdds();
            for (int k = 0; k < count; k++) {
                int row = Edges.fullRow(k);
                mixed.row(Edges.relation(row), Edges.a(row), Edges.b(row), k * 7 % 11);
            }
            checks.due(count + " rows of mixed weights", mixed.weight(), Edges.TEN_TO[count]);
        }
    }

    private static void atMostFourAtoms() {
        checks.sentence("THE QUERY", "a list of at most 4 ATOMS, of four different relations");
        for (int code = 0; code < 256; code++) {
            LiftedOdds x = new LiftedOdds();
            boolean[] has = new boolean[4];
            int atoms = 0;
            for (int k = 0; k < 4; k++) {
                int relation = code >> 2 * k & 3;
                atoms += has[relation] ? 0 : 1;
                checks.due("atom of relation " + relation, x.atom(relation, k % 3, 2), has[relation] ? -1 : atoms);
                has[relation] = true;
            }
            for (int relation = 0; relation < 4; relation++) {
                atoms += has[relation] ? 0 : 1;
                checks.due("then atom of relation " + relation, x.atom(relation, 1, 1), has[relation] ? -1 : atoms);
                checks.due("a fifth of relation " + relation, x.atom(relation, 0, 1), -1);
                has[relation] = true;
            }
        }
    }

    private static void variablesOfAnAtom() {
        checks.sentence("THE QUERY", "two variables u and v, each from 0 to 2 (they may be the same)");
        for (int u = -2; u <= 5; u++) {
            for (int v = -2; v <= 5; v++) {
                LiftedOdds x = new LiftedOdds();
                boolean is = u >= 0 && u <= 2 && v >= 0 && v <= 2;
                checks.due("atom" + Edges.triple(1, u, v), x.atom(1, u, v), is ? 1 : -1);
                x.row(1, 0, 1, 4);
                checks.due("weight() of unlike values, " + u + " " + v, x.weight(), !is ? 10 : u == v ? 0 : 4);
                x.row(1, 2, 2, 3);
                checks.due("weight() of like values too, " + u + " " + v, x.weight(), !is ? 100 : u == v ? 30 : 58);
            }
        }
    }

    private static void valuesOfTheVariables() {
        checks.sentence("THE QUERY", "values from 0 to 2 can be given to the variables 0, 1 and 2");
        for (int code = 0; code < 27; code++) {
            int[] value = {code / 9, code / 3 % 3, code % 3};
            for (int pair = 0; pair < 9; pair++) {
                LiftedOdds x = new LiftedOdds();
                for (int variable = 0; variable < 3; variable++) {
                    x.row(variable, value[variable], value[variable], 2);
                    x.atom(variable, variable, variable);
                }
                x.atom(3, pair / 3, pair % 3);
                x.row(3, value[pair / 3], value[pair % 3], 3);
                String values = " for values " + Edges.triple(value[0], value[1], value[2]);
                checks.due("weight()" + values, x.weight(), 24);
                checks.due("worlds()" + values, x.worlds(), 1);
                checks.due("heaviest()" + values, x.heaviest(), 15);
            }
        }
    }

    private static void everyAtomCounts() {
        checks.sentence("THE QUERY", "for every atom the row (relation, value of u, value of v) is there");
        // Any three of these atoms and their rows leave each variable no value but its own number.
        int[] u = {0, 1, 2, 1};
        int[] v = {1, 2, 0, 1};
        for (int missing = 0; missing < 4; missing++) {
            for (int row = 0; row < 9; row++) {
                LiftedOdds x = new LiftedOdds();
                for (int relation = 0; relation < 4; relation++) {
                    x.atom(relation, u[relation], v[relation]);
                    if (relation != missing) {
                        x.row(relation, u[relation], v[relation], 5);
                    }
                }
                checks.due("weight() without relation " + missing, x.weight(), 0);
                x.row(missing, Edges.a(row), Edges.b(row), 3);
                boolean fits = Edges.a(row) == u[missing] && Edges.b(row) == v[missing];
                String triple = Edges.triple(missing, Edges.a(row), Edges.b(row));
                checks.due("weight() with " + triple, x.weight(), fits ? 375 : 0);
                checks.due("worlds() with " + triple, x.worlds(), fits ? 1 : 0);
            }
        }
    }

    private static void emptyQueryHolds() {
        checks.sentence("THE QUERY", "The empty query holds in every world");
        for (int count = 0; count <= 10; count++) {
            for (int weight = 0; weight <= 10; weight += 5) {
                LiftedOdds x = Edges.listed(count, weight);
                String rows = count + " rows of weight " + weight + ": ";
                checks.due(rows + "worlds()", x.worlds(), 1 << count);
                checks.due(rows + "weight()", x.weight(), Edges.TEN_TO[count]);
                checks.due(rows + "heaviest()", x.heaviest(), weight == 10 ? (1 << count) - 1 : 0);
            }
        }
    }

    private static void amountsFitALong() {
        checks.sentence("Terms", "at most 10 to the power 10 in amount");
        LiftedOdds x = Edges.listed(10, 10);
        checks.due("weight()", x.weight(), 10_000_000_000L);
        checks.due("weightWith", x.weightWith(1, 0, 0), 10_000_000_000L);
        checks.due("weightWithout of a row not listed", x.weightWithout(3, 2, 2), 10_000_000_000L);
        LiftedOdds y = Edges.listed(10, 0);
        checks.due("weightWithout", y.weightWithout(1, 0, 0), 10_000_000_000L);
    }

    private static void lastCallsAreAnswered() {
        checks.sentence("What it is", "at most 512 calls after it has been made");
        LiftedOdds x = new LiftedOdds();
        for (int time = 0; time < 100; time++) {
            checks.due("row", x.row(0, 0, 0, 3), 1);
            checks.due("atom", x.atom(0, 0, 0), 1);
            checks.due("weight()", x.weight(), 3);
            x.clearQuery();
            checks.due("drop", x.drop(0, 0, 0), 0);
        }
        for (int k = 0; k < 10; k++) {
            checks.due("call " + (501 + k), x.row(Edges.relation(k), Edges.a(k), Edges.b(k), 10), k + 1);
        }
        checks.due("call 511", x.heaviest(), 1023);
        checks.due("call 512", x.weight(), 10_000_000_000L);
    }
}
