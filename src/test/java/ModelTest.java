/** All promises: long mixed runs, the same each time, measured against the plain model. */
public final class ModelTest {
    private static final int RUNS = 150;
    private static final int STEPS = 60;
    private static final Checks checks = new Checks();
    private static long state = 20261115L;

    public static void main(String[] args) {
        for (int run = 0; run < RUNS; run++) {
            mixedRun(run);
        }
        everyPairOfAtoms();
        nestedOfEveryQuery();
        checks.end();
    }

    /** A fixed series of numbers, so that a run that fails can be run again. */
    private static int next(int bound) {
        state = state * 6364136223846793005L + 1442695040888963407L;
        return (int) ((state >>> 33) % bound);
    }

    /** Mostly from 0 to bound - 1, now and then one beside it. */
    private static int nearly(int bound) {
        return next(25) == 0 ? (next(2) == 0 ? -1 : bound) : next(bound);
    }

    private static void mixedRun(int run) {
        LiftedOdds x = new LiftedOdds();
        PlainModel model = new PlainModel();
        for (int step = 0; step < STEPS; step++) {
            int relation = nearly(4);
            int a = nearly(3);
            int b = nearly(3);
            String where = "run " + run + " step " + step + ": ";
            String triple = "(" + relation + ", " + a + ", " + b + ")";
            int kind = next(20);
            if (kind < 9) {
                int weight = nearly(11);
                checks.due(where + "row" + triple + " of weight " + weight,
                        x.row(relation, a, b, weight), model.row(relation, a, b, weight));
            } else if (kind < 13) {
                checks.due(where + "drop" + triple, x.drop(relation, a, b), model.drop(relation, a, b));
            } else if (kind < 18) {
                checks.due(where + "atom" + triple, x.atom(relation, a, b), model.atom(relation, a, b));
            } else if (kind == 18) {
                x.clearQuery();
                model.clearQuery();
            }
            if (step % 5 == 4) {
                compare(where, x, model, nearly(4), nearly(3), nearly(3));
            }
        }
    }

    private static void compare(String where, LiftedOdds x, PlainModel model, int relation, int a, int b) {
        String triple = "(" + relation + ", " + a + ", " + b + ")";
        long[] answers = model.answers(relation, a, b);
        checks.due(where + "nested()", x.nested(), model.nested());
        checks.due(where + "weight()", x.weight(), answers[0]);
        checks.due(where + "weightWith" + triple, x.weightWith(relation, a, b), answers[1]);
        checks.due(where + "weightWithout" + triple, x.weightWithout(relation, a, b), answers[2]);
        checks.due(where + "worlds()", x.worlds(), answers[3]);
        checks.due(where + "heaviest()", x.heaviest(), answers[4]);
    }

    private static void everyPairOfAtoms() {
        for (int pair = 0; pair < 81; pair++) {
            LiftedOdds x = new LiftedOdds();
            PlainModel model = new PlainModel();
            int[] rows = {0, 0, 1, 0, 1, 2, 0, 2, 2, 3, 1, 0, 3, 1, 1, 3, 2, 0};
            for (int k = 0; k < rows.length; k += 3) {
                x.row(rows[k], rows[k + 1], rows[k + 2], k / 3 + 2);
                model.row(rows[k], rows[k + 1], rows[k + 2], k / 3 + 2);
            }
            x.atom(0, pair / 27, pair / 9 % 3);
            model.atom(0, pair / 27, pair / 9 % 3);
            x.atom(3, pair / 3 % 3, pair % 3);
            model.atom(3, pair / 3 % 3, pair % 3);
            compare("pair " + pair + ": ", x, model, 3, 1, 1);
        }
    }

    /** Each relation has no atom or one of nine, so there are 10 to the power 4 queries. */
    private static void nestedOfEveryQuery() {
        for (int query = 0; query < 10_000; query++) {
            LiftedOdds x = new LiftedOdds();
            PlainModel model = new PlainModel();
            int rest = query;
            for (int relation = 0; relation < 4; relation++) {
                int pair = rest % 10;
                rest /= 10;
                if (pair < 9) {
                    x.atom(relation, pair / 3, pair % 3);
                    model.atom(relation, pair / 3, pair % 3);
                }
            }
            checks.due("query " + query + ": nested()", x.nested(), model.nested());
        }
    }
}
