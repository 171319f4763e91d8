/** Promises 1 to 3: a new object, row and drop. */
public final class RowsTest {
    private static final int LEAST = Integer.MIN_VALUE;
    private static final int MOST = Integer.MAX_VALUE;
    private static final Checks checks = new Checks();

    public static void main(String[] args) {
        newObjectIsEmpty();
        objectsShareNothing();
        everyRowCanBeListed();
        rowTakesNewWeight();
        rowRefusesWrongArguments();
        rowRefusesAnEleventh();
        dropTakesOffTheList();
        dropRefusesWhatIsNotListed();
        droppedRowComesBackWithItsNewWeight();
        checks.end();
    }

    private static void newObjectIsEmpty() {
        LiftedOdds x = new LiftedOdds();
        checks.due("new: weight()", x.weight(), 1);
        checks.due("new: worlds()", x.worlds(), 1);
        checks.due("new: heaviest()", x.heaviest(), 0);
        checks.due("new: nested()", x.nested(), true);
        for (int index = 0; index < 36; index++) {
            checks.due("new: drop", x.drop(index / 9, index / 3 % 3, index % 3), -1);
        }
        checks.due("new: first row", x.row(0, 0, 0, 5), 1);
        checks.due("new: first atom", x.atom(0, 0, 0), 1);
    }

    private static void objectsShareNothing() {
        LiftedOdds x = new LiftedOdds();
        LiftedOdds y = new LiftedOdds();
        x.row(0, 0, 0, 5);
        x.atom(0, 0, 0);
        checks.due("shared: weight()", y.weight(), 1);
        checks.due("shared: row", y.row(1, 0, 0, 5), 1);
        checks.due("shared: atom", y.atom(0, 0, 0), 1);
        checks.due("shared: weight() of the first", x.weight(), 5);
    }

    private static void everyRowCanBeListed() {
        LiftedOdds x = new LiftedOdds();
        for (int index = 0; index < 36; index++) {
            int relation = index / 9;
            int a = index / 3 % 3;
            int b = index % 3;
            String name = "(" + relation + ", " + a + ", " + b + ")";
            checks.due("row" + name, x.row(relation, a, b, 3), 1);
            checks.due("weightWith" + name, x.weightWith(relation, a, b), 3);
            checks.due("weightWithout" + name, x.weightWithout(relation, a, b), 7);
            checks.due("drop" + name, x.drop(relation, a, b), 0);
        }
    }

    private static void rowTakesNewWeight() {
        LiftedOdds x = new LiftedOdds();
        for (int weight = 0; weight <= 10; weight++) {
            checks.due("row with weight " + weight, x.row(2, 1, 0, weight), 1);
            checks.due("weightWith after " + weight, x.weightWith(2, 1, 0), weight);
            checks.due("weightWithout after " + weight, x.weightWithout(2, 1, 0), 10 - weight);
        }
    }

    private static void rowRefusesWrongArguments() {
        LiftedOdds x = new LiftedOdds();
        x.row(0, 0, 0, 4);
        int[] wrongRelations = {LEAST, -1, 4, 5, MOST};
        int[] wrongValues = {LEAST, -1, 3, 4, MOST};
        int[] wrongWeights = {LEAST, -1, 11, 12, MOST};
        for (int k = 0; k < 5; k++) {
            checks.due("row of a wrong relation", x.row(wrongRelations[k], 0, 0, 5), -1);
            checks.due("row of a wrong a", x.row(0, wrongValues[k], 0, 5), -1);
            checks.due("row of a wrong b", x.row(0, 0, wrongValues[k], 5), -1);
            checks.due("listed row of a wrong weight", x.row(0, 0, 0, wrongWeights[k]), -1);
            checks.due("new row of a wrong weight", x.row(1, 0, 0, wrongWeights[k]), -1);
        }
        // Wrong triples that come out at the index of a right row.
        checks.due("row(1, -1, 0, 5)", x.row(1, -1, 0, 5), -1);
        checks.due("row(1, -3, 0, 5)", x.row(1, -3, 0, 5), -1);
        checks.due("row(1, 0, -1, 5)", x.row(1, 0, -1, 5), -1);
        checks.due("row(-1, 3, 0, 5)", x.row(-1, 3, 0, 5), -1);
        checks.due("row(1, -1, 3, 5)", x.row(1, -1, 3, 5), -1);
        checks.due("weightWith after refusals", x.weightWith(0, 0, 0), 4);
        checks.due("worlds after refusals", x.worlds(), 2);
        checks.due("row after refusals", x.row(3, 2, 2, 5), 2);
    }

    private static void rowRefusesAnEleventh() {
        LiftedOdds x = new LiftedOdds();
        for (int k = 0; k < 10; k++) {
            checks.due("row number " + k, x.row(k / 9, k / 3 % 3, k % 3, 10), k + 1);
        }
        checks.due("eleventh row", x.row(3, 2, 2, 10), -1);
        checks.due("weight with ten rows", x.weight(), 10_000_000_000L);
        checks.due("worlds with ten rows", x.worlds(), 1024);
        checks.due("weightWith of the refused row", x.weightWith(3, 2, 2), 0);
        checks.due("new weight with ten rows", x.row(0, 0, 0, 2), 10);
        checks.due("weightWith of the new weight", x.weightWith(0, 0, 0), 2_000_000_000L);
        checks.due("drop of ten rows", x.drop(0, 0, 0), 9);
        checks.due("row in the free place", x.row(3, 2, 2, 10), 10);
        checks.due("row once more", x.row(0, 0, 0, 10), -1);
    }

    private static void dropTakesOffTheList() {
        LiftedOdds x = new LiftedOdds();
        x.row(0, 0, 0, 5);
        x.row(0, 1, 1, 6);
        x.row(0, 2, 2, 7);
        x.atom(0, 0, 0);
        checks.due("weight before the drop", x.weight(), 940);
        checks.due("drop the middle row", x.drop(0, 1, 1), 2);
        checks.due("weight after the drop", x.weight(), 85);
        checks.due("weightWith of the dropped row", x.weightWith(0, 1, 1), 0);
        checks.due("drop the first row", x.drop(0, 0, 0), 1);
        checks.due("weight after two drops", x.weight(), 7);
        checks.due("drop the last row", x.drop(0, 2, 2), 0);
        checks.due("weight after three drops", x.weight(), 0);
        checks.due("atom after the drops", x.atom(0, 0, 0), -1);
    }

    private static void dropRefusesWhatIsNotListed() {
        LiftedOdds x = new LiftedOdds();
        x.row(1, 0, 0, 5);
        x.row(0, 0, 1, 5);
        checks.due("drop twice, first", x.drop(1, 0, 0), 1);
        checks.due("drop twice, again", x.drop(1, 0, 0), -1);
        checks.due("drop with a and b changed about", x.drop(0, 1, 0), -1);
        int[] wrongRelations = {LEAST, -1, 4, MOST};
        int[] wrongValues = {LEAST, -1, 3, MOST};
        for (int k = 0; k < 4; k++) {
            checks.due("drop of a wrong relation", x.drop(wrongRelations[k], 0, 1), -1);
            checks.due("drop of a wrong a", x.drop(0, wrongValues[k], 1), -1);
            checks.due("drop of a wrong b", x.drop(0, 0, wrongValues[k]), -1);
        }
        // Wrong triples that come out at the index of the listed row.
        checks.due("drop(1, -2, -2)", x.drop(1, -2, -2), -1);
        checks.due("drop(0, -1, 4)", x.drop(0, -1, 4), -1);
        checks.due("drop(-1, 3, 1)", x.drop(-1, 3, 1), -1);
        checks.due("worlds after refusals", x.worlds(), 2);
        checks.due("drop after refusals", x.drop(0, 0, 1), 0);
    }

    private static void droppedRowComesBackWithItsNewWeight() {
        LiftedOdds x = new LiftedOdds();
        x.row(2, 0, 1, 9);
        x.drop(2, 0, 1);
        checks.due("row after its drop", x.row(2, 0, 1, 0), 1);
        checks.due("weightWith after coming back", x.weightWith(2, 0, 1), 0);
        checks.due("weightWithout after coming back", x.weightWithout(2, 0, 1), 10);
    }
}
