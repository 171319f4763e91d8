/** The boundary cases of the promises 1 to 3: a new object, row and drop; a test for each sentence. */
public final class RowsEdgeTest {
    private static final Checks checks = new Checks();

    public static void main(String[] args) {
        newObjectHasNoRow();
        newObjectHasNoAtom();
        rowGivesANewWeight();
        rowRefusesARelation();
        rowRefusesAnA();
        rowRefusesAB();
        rowRefusesAWeight();
        rowRefusesAnEleventh();
        rowCounts();
        dropTakesTheRowOff();
        dropRefusesWhatIsNotListed();
        dropRefusesWhatIsNoRow();
        dropCounts();
        checks.end();
    }

    private static void newObjectHasNoRow() {
        checks.sentence("promise 1", "No row is listed");
        LiftedOdds x = new LiftedOdds();
        checks.due("worlds()", x.worlds(), 1);
        for (int row = 0; row < Edges.ROWS; row++) {
            int relation = Edges.relation(row);
            int a = Edges.a(row);
            int b = Edges.b(row);
            checks.due("weightWith" + Edges.triple(relation, a, b), x.weightWith(relation, a, b), 0);
            checks.due("weightWithout" + Edges.triple(relation, a, b), x.weightWithout(relation, a, b), 1);
            checks.due("drop" + Edges.triple(relation, a, b), x.drop(relation, a, b), -1);
            checks.due("first row", new LiftedOdds().row(relation, a, b, 5), 1);
        }
    }

    private static void newObjectHasNoAtom() {
        checks.sentence("promise 1", "the query is empty");
        checks.due("weight()", new LiftedOdds().weight(), 1);
        checks.due("heaviest()", new LiftedOdds().heaviest(), 0);
        checks.due("nested()", new LiftedOdds().nested(), true);
        for (int relation = 0; relation < 4; relation++) {
            checks.due("first atom", new LiftedOdds().atom(relation, 0, 1), 1);
        }
    }

    private static void rowGivesANewWeight() {
        checks.sentence("promise 2", "gives the row that is listed a new weight");
        for (int k = 0; k < Edges.FULL; k++) {
            int relation = Edges.relation(Edges.fullRow(k));
            int a = Edges.a(Edges.fullRow(k));
            int b = Edges.b(Edges.fullRow(k));
            LiftedOdds x = Edges.full();
            x.clearQuery();
            for (int weight = 10; weight >= 0; weight--) {
                checks.due("row again, of ten", x.row(relation, a, b, weight), 10);
                checks.due("there, of ten", x.weightWith(relation, a, b), weight * 1_000_000_000L);
                checks.due("absent, of ten", x.weightWithout(relation, a, b), (10 - weight) * 1_000_000_000L);
            }
            checks.due("row with the weight that it has", x.row(relation, a, b, 0), 10);
            checks.due("worlds()", x.worlds(), 1024);
            checks.due("weight()", x.weight(), 10_000_000_000L);
        }
    }

    private static void rowRefusesARelation() {
        checks.sentence("promise 2", "-1 and changes nothing if relation is not from 0 to 3");
        for (int relation : Edges.beside(3)) {
            Edges.refused(checks, "row" + Edges.triple(relation, 0, 1), x -> x.row(relation, 0, 1, 5));
            Edges.refused(checks, "row" + Edges.triple(relation, 2, 2), x -> x.row(relation, 2, 2, 10));
        }
        checks.due("relation 0", new LiftedOdds().row(0, 0, 1, 5), 1);
        checks.due("relation 3", new LiftedOdds().row(3, 0, 1, 5), 1);
    }

    private static void rowRefusesAnA() {
        checks.sentence("promise 2", "-1 and changes nothing if a is not from 0 to 2");
        for (int a : Edges.beside(2)) {
            Edges.refused(checks, "row" + Edges.triple(0, a, 1), x -> x.row(0, a, 1, 5));
            Edges.refused(checks, "row" + Edges.triple(1, a, 1), x -> x.row(1, a, 1, 5));
            Edges.refused(checks, "row" + Edges.triple(3, a, 2), x -> x.row(3, a, 2, 10));
        }
        checks.due("a of 0", new LiftedOdds().row(1, 0, 1, 5), 1);
        checks.due("a of 2", new LiftedOdds().row(1, 2, 1, 5), 1);
    }

    private static void rowRefusesAB() {
        checks.sentence("promise 2", "-1 and changes nothing if b is not from 0 to 2");
        for (int b : Edges.beside(2)) {
            Edges.refused(checks, "row" + Edges.triple(0, 0, b), x -> x.row(0, 0, b, 5));
            Edges.refused(checks, "row" + Edges.triple(1, 1, b), x -> x.row(1, 1, b, 5));
            Edges.refused(checks, "row" + Edges.triple(3, 2, b), x -> x.row(3, 2, b, 10));
        }
        checks.due("b of 0", new LiftedOdds().row(1, 1, 0, 5), 1);
        checks.due("b of 2", new LiftedOdds().row(1, 1, 2, 5), 1);
    }

    private static void rowRefusesAWeight() {
        checks.sentence("promise 2", "-1 and changes nothing if weight is not from 0 to 10");
        for (int weight : Edges.beside(10)) {
            Edges.refused(checks, "row (0, 0, 1) of weight " + weight, x -> x.row(0, 0, 1, weight));
            Edges.refused(checks, "row (1, 1, 1) of weight " + weight, x -> x.row(1, 1, 1, weight));
            Edges.refused(checks, "row (3, 2, 2) of weight " + weight, x -> x.row(3, 2, 2, weight));
        }
        checks.due("weight 0", new LiftedOdds().row(0, 0, 1, 0), 1);
        checks.due("weight 10", new LiftedOdds().row(0, 0, 1, 10), 1);
        checks.due("weight 0 for a listed row", Edges.some().row(0, 0, 1, 0), 4);
        checks.due("weight 10 for a listed row", Edges.some().row(0, 0, 1, 10), 4);
    }

    private static void rowRefusesAnEleventh() {
        checks.sentence("promise 2", "-1 and changes nothing if the row is not listed and 10 rows are listed already");
        String listed = " ";
        for (int k = 0; k < Edges.FULL; k++) {
            listed += Edges.fullRow(k) + " ";
        }
        for (int row = 0; row < Edges.ROWS; row++) {
            int relation = Edges.relation(row);
            int a = Edges.a(row);
            int b = Edges.b(row);
            if (!listed.contains(" " + row + " ")) {
                Edges.refusedIn(checks, "eleventh row" + Edges.triple(relation, a, b), Edges::full,
                        x -> x.row(relation, a, b, 10));
                LiftedOdds x = Edges.full();
                x.drop(3, 2, 2);
                checks.due("tenth row" + Edges.triple(relation, a, b), x.row(relation, a, b, 10), 10);
                checks.due("the dropped row as eleventh", x.row(3, 2, 2, 10), -1);
            }
        }
    }

    private static void rowCounts() {
        checks.sentence("promise 2", "Otherwise answers how many rows are listed then");
        for (int step = 1; step < Edges.ROWS; step++) {
            if (step % 2 == 0 || step % 3 == 0) {
                continue;
            }
            LiftedOdds x = new LiftedOdds();
            for (int k = 0; k < 10; k++) {
                int row = k * step % Edges.ROWS;
                checks.due("row " + (k + 1), x.row(Edges.relation(row), Edges.a(row), Edges.b(row), k), k + 1);
                checks.due("the first row again", x.row(0, 0, 0, 10 - k), k + 1);
            }
        }
    }

    private static void dropTakesTheRowOff() {
        checks.sentence("promise 3", "Takes the row off the list");
        for (int k = 0; k < Edges.FULL; k++) {
            LiftedOdds x = Edges.full();
            PlainModel model = new PlainModel();
            for (int other = 0; other < Edges.FULL; other++) {
                int row = Edges.fullRow(other);
                if (other != k) {
                    model.row(Edges.relation(row), Edges.a(row), Edges.b(row), other + 1);
                }
            }
            x.clearQuery();
            int gone = Edges.fullRow(k);
            x.drop(Edges.relation(gone), Edges.a(gone), Edges.b(gone));
            checks.due("worlds() without row " + gone, x.worlds(), 512);
            for (int row = 0; row < Edges.ROWS; row++) {
                long[] answers = model.answers(Edges.relation(row), Edges.a(row), Edges.b(row));
                long with = x.weightWith(Edges.relation(row), Edges.a(row), Edges.b(row));
                checks.due("row " + row + " there, row " + gone + " dropped", with, answers[1]);
                checks.due("heaviest() without row " + gone, x.heaviest(), answers[4]);
            }
        }
    }

    private static void dropRefusesWhatIsNotListed() {
        checks.sentence("promise 3", "-1 and changes nothing if it is not listed");
        for (int row = 0; row < Edges.ROWS; row++) {
            int relation = Edges.relation(row);
            int a = Edges.a(row);
            int b = Edges.b(row);
            String triple = Edges.triple(relation, a, b);
            Edges.refusedIn(checks, "new: drop" + triple, Edges::empty, x -> x.drop(relation, a, b));
            LiftedOdds inUse = Edges.some();
            inUse.drop(relation, a, b);
            String once = Edges.look(inUse);
            LiftedOdds twice = Edges.some();
            twice.drop(relation, a, b);
            checks.due("drop again" + triple, twice.drop(relation, a, b), -1);
            checks.due("all that can be seen after drop" + triple + " twice", Edges.look(twice), once);
        }
        Edges.refusedIn(checks, "in use: drop of a and b changed about", Edges::some, x -> x.drop(0, 1, 0));
        Edges.refusedIn(checks, "in use: drop in another relation", Edges::some, x -> x.drop(2, 0, 1));
        Edges.refusedIn(checks, "full: drop of a row not listed", Edges::full, x -> x.drop(3, 2, 1));
    }

    private static void dropRefusesWhatIsNoRow() {
        checks.sentence("promise 3", "or there is no such row");
        for (int wrong : Edges.beside(3)) {
            Edges.refused(checks, "drop" + Edges.triple(wrong, 0, 1), x -> x.drop(wrong, 0, 1));
            Edges.refused(checks, "drop" + Edges.triple(wrong, 0, 0), x -> x.drop(wrong, 0, 0));
        }
        for (int wrong : Edges.beside(2)) {
            Edges.refused(checks, "drop" + Edges.triple(0, wrong, 1), x -> x.drop(0, wrong, 1));
            Edges.refused(checks, "drop" + Edges.triple(1, wrong, 1), x -> x.drop(1, wrong, 1));
            Edges.refused(checks, "drop" + Edges.triple(0, 0, wrong), x -> x.drop(0, 0, wrong));
            Edges.refused(checks, "drop" + Edges.triple(1, 1, wrong), x -> x.drop(1, 1, wrong));
        }
        // Such as come out at the place of a listed row if they are reckoned together unchecked.
        Edges.refused(checks, "drop(1, -2, -2)", x -> x.drop(1, -2, -2));
        Edges.refused(checks, "drop(0, -1, 4)", x -> x.drop(0, -1, 4));
        Edges.refused(checks, "drop(-1, 3, 1)", x -> x.drop(-1, 3, 1));
        Edges.refused(checks, "drop(0, 3, 4)", x -> x.drop(0, 3, 4));
    }

    private static void dropCounts() {
        checks.sentence("promise 3", "Otherwise answers how many rows are listed then");
        for (int first = 0; first < Edges.FULL; first++) {
            LiftedOdds x = Edges.full();
            for (int k = 0; k < Edges.FULL; k++) {
                int row = Edges.fullRow((first + 3 * k) % Edges.FULL);
                int got = x.drop(Edges.relation(row), Edges.a(row), Edges.b(row));
                checks.due("drop number " + (k + 1), got, 9 - k);
            }
            checks.due("worlds() after the last drop", x.worlds(), 0);
            checks.due("row after the last drop", x.row(2, 2, 2, 1), 1);
        }
    }
}
