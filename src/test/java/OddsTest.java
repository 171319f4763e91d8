/** Promises 7 to 11: weight, weightWith, weightWithout, worlds and heaviest, by sums done by hand. */
public final class OddsTest {
    private static final int LEAST = Integer.MIN_VALUE;
    private static final int MOST = Integer.MAX_VALUE;
    private static final Checks checks = new Checks();

    public static void main(String[] args) {
        oneRow();
        rowsThatTheQueryDoesNotAskFor();
        variableThatStandsTwice();
        variablesMayShareAValue();
        greatestAmounts();
        rowsThatAreNotListed();
        worldsOfWeightNothing();
        heaviestOfSeveral();
        heaviestCountsRowsInOrder();
        questionsChangeNothing();
        checks.end();
    }

    private static void oneRow() {
        LiftedOdds x = new LiftedOdds();
        x.atom(0, 0, 1);
        checks.due("no row: weight", x.weight(), 0);
        checks.due("no row: worlds", x.worlds(), 0);
        checks.due("no row: heaviest", x.heaviest(), -1);
        x.row(0, 2, 1, 3);
        checks.due("one row: weight", x.weight(), 3);
        checks.due("one row: weightWith", x.weightWith(0, 2, 1), 3);
        checks.due("one row: weightWithout", x.weightWithout(0, 2, 1), 0);
        checks.due("one row: worlds", x.worlds(), 1);
        checks.due("one row: heaviest", x.heaviest(), 1);
    }

    private static void rowsThatTheQueryDoesNotAskFor() {
        LiftedOdds x = new LiftedOdds();
        x.atom(1, 0, 0);
        x.row(1, 2, 2, 3);
        x.row(0, 2, 2, 4);
        checks.due("other row: weight", x.weight(), 30);
        checks.due("other row: weightWith", x.weightWith(0, 2, 2), 12);
        checks.due("other row: weightWithout", x.weightWithout(0, 2, 2), 18);
        checks.due("other row: worlds", x.worlds(), 2);
        checks.due("other row: heaviest", x.heaviest(), 2);
    }

    private static void variableThatStandsTwice() {
        LiftedOdds x = new LiftedOdds();
        x.atom(0, 2, 2);
        x.row(0, 0, 1, 9);
        checks.due("off the diagonal: weight", x.weight(), 0);
        x.row(0, 1, 1, 2);
        checks.due("on the diagonal: weight", x.weight(), 20);
    }

    private static void variablesMayShareAValue() {
        for (int value = 0; value < 3; value++) {
            LiftedOdds x = new LiftedOdds();
            x.atom(0, 0, 1);
            x.atom(1, 1, 2);
            x.row(0, value, value, 5);
            x.row(1, value, value, 5);
            checks.due("all variables " + value + ": weight", x.weight(), 25);
            checks.due("all variables " + value + ": heaviest", x.heaviest(), 3);
        }
    }

    private static void greatestAmounts() {
        LiftedOdds x = new LiftedOdds();
        for (int k = 0; k < 10; k++) {
            x.row(k / 9, k / 3 % 3, k % 3, 10);
        }
        x.atom(0, 0, 1);
        x.atom(1, 0, 0);
        checks.due("ten certain rows: weight", x.weight(), 10_000_000_000L);
        checks.due("ten certain rows: weightWith", x.weightWith(1, 0, 0), 10_000_000_000L);
        checks.due("ten certain rows: weightWithout", x.weightWithout(1, 0, 0), 0);
        checks.due("ten certain rows: worlds", x.worlds(), 448);
        checks.due("ten certain rows: heaviest", x.heaviest(), 1023);
        x.clearQuery();
        checks.due("ten certain rows: all worlds", x.worlds(), 1024);
    }

    private static void rowsThatAreNotListed() {
        LiftedOdds x = new LiftedOdds();
        x.row(0, 0, 1, 4);
        x.atom(0, 0, 1);
        int[] wrong = {LEAST, -1, 3, 4, MOST};
        for (int k = 0; k < 5; k++) {
            checks.due("weightWith of a wrong a", x.weightWith(0, wrong[k], 1), 0);
            checks.due("weightWith of a wrong b", x.weightWith(0, 0, wrong[k]), 0);
            checks.due("weightWith of a wrong or empty relation", x.weightWith(wrong[k], 0, 1), 0);
            checks.due("weightWithout of a wrong a", x.weightWithout(0, wrong[k], 1), 4);
            checks.due("weightWithout of a wrong b", x.weightWithout(0, 0, wrong[k]), 4);
            checks.due("weightWithout of a wrong or empty relation", x.weightWithout(wrong[k], 0, 1), 4);
        }
        // A wrong triple that comes out at the index of the listed row.
        checks.due("weightWith(1, -2, -2)", x.weightWith(1, -2, -2), 0);
        checks.due("weightWithout(1, -2, -2)", x.weightWithout(1, -2, -2), 4);
        checks.due("weightWith of a row that is not listed", x.weightWith(0, 1, 0), 0);
        checks.due("weightWithout of a row that is not listed", x.weightWithout(0, 1, 0), 4);
        x.drop(0, 0, 1);
        checks.due("weightWith of a dropped row", x.weightWith(0, 0, 1), 0);
        checks.due("weightWithout of a dropped row", x.weightWithout(0, 0, 1), 0);
        x.clearQuery();
        checks.due("weightWithout and no row", x.weightWithout(0, 0, 1), 1);
        checks.due("weightWith and no row", x.weightWith(0, 0, 1), 0);
    }

    private static void worldsOfWeightNothing() {
        LiftedOdds x = new LiftedOdds();
        x.row(2, 0, 0, 0);
        x.row(2, 1, 1, 0);
        x.atom(2, 0, 0);
        checks.due("impossible rows: weight", x.weight(), 0);
        checks.due("impossible rows: worlds", x.worlds(), 3);
        checks.due("impossible rows: heaviest", x.heaviest(), 1);
        checks.due("impossible rows: weightWithout", x.weightWithout(2, 0, 0), 0);
    }

    private static void heaviestOfSeveral() {
        LiftedOdds x = new LiftedOdds();
        x.row(0, 0, 0, 5);
        x.row(0, 1, 1, 5);
        checks.due("even odds, empty query: heaviest", x.heaviest(), 0);
        x.atom(0, 0, 0);
        checks.due("even odds: heaviest", x.heaviest(), 1);
        x.row(0, 1, 1, 6);
        checks.due("a heavier second row: heaviest", x.heaviest(), 2);
        x.row(0, 0, 0, 6);
        checks.due("two heavy rows: heaviest", x.heaviest(), 3);
        x.row(0, 0, 0, 4);
        x.row(0, 1, 1, 4);
        checks.due("two light rows: heaviest", x.heaviest(), 1);
    }

    private static void heaviestCountsRowsInOrder() {
        LiftedOdds x = new LiftedOdds();
        x.row(3, 0, 0, 9);
        checks.due("last relation alone: heaviest", x.heaviest(), 1);
        x.row(0, 2, 1, 1);
        checks.due("an earlier relation: heaviest", x.heaviest(), 2);
        x.row(0, 1, 2, 1);
        checks.due("an earlier a: heaviest", x.heaviest(), 4);
        x.row(0, 2, 0, 9);
        checks.due("an earlier b: heaviest", x.heaviest(), 10);
        x.drop(0, 1, 2);
        checks.due("after a drop: heaviest", x.heaviest(), 5);
    }

    private static void questionsChangeNothing() {
        LiftedOdds x = new LiftedOdds();
        x.row(0, 0, 1, 4);
        x.row(1, 1, 1, 7);
        x.atom(0, 0, 1);
        x.atom(1, 1, 1);
        for (int time = 0; time < 3; time++) {
            checks.due("again: weight", x.weight(), 28);
            checks.due("again: weightWith", x.weightWith(0, 0, 1), 28);
            checks.due("again: weightWithout", x.weightWithout(1, 1, 1), 0);
            checks.due("again: worlds", x.worlds(), 1);
            checks.due("again: heaviest", x.heaviest(), 3);
            checks.due("again: nested", x.nested(), true);
        }
        checks.due("again: row", x.row(2, 0, 0, 1), 3);
        checks.due("again: atom", x.atom(2, 0, 0), 3);
    }
}
