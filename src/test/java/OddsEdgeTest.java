/** The boundary cases of the promises 7 to 11: the questions about worlds; a test for each sentence. */
public final class OddsEdgeTest {
    private static final Checks checks = new Checks();

    public static void main(String[] args) {
        weightOfNoWorldAndOfAll();
        weightWithOfARowNotListed();
        weightWithOfNoRow();
        weightWithAtTheEndsOfTheWeights();
        weightWithoutOfARowNotListed();
        weightWithoutOfNoRow();
        weightWithoutAtTheEndsOfTheWeights();
        worldsFromNoneToAll();
        worldsOfWeightNothingCount();
        heaviestByTheGreatestWeight();
        heaviestOfSeveralIsTheLeast();
        heaviestOfNoWorld();
        heaviestNumbersTheRows();
        heaviestOrdersTheRows();
        checks.end();
    }

    private static void weightOfNoWorldAndOfAll() {
        checks.sentence("promise 7", "The sum of the weights of all worlds in which the query holds");
        for (int count = 0; count <= 10; count++) {
            LiftedOdds x = Edges.listed(count, 10);
            checks.due("in all of " + count + " rows", x.weight(), Edges.TEN_TO[count]);
            x.atom(2, 0, 1);
            checks.due("in none of " + count + " rows", x.weight(), 0);
        }
        LiftedOdds last = new LiftedOdds();
        last.atom(3, 0, 0);
        last.row(3, 2, 2, 1);
        checks.due("in the last world alone", last.weight(), 1);
        last.row(3, 2, 2, 0);
        checks.due("in worlds of weight 0 alone", last.weight(), 0);
        last.row(3, 2, 2, 10);
        checks.due("in worlds that are certain", last.weight(), 10);
    }

    private static void weightWithOfARowNotListed() {
        checks.sentence("promise 8", "0 if it is not listed");
        for (int row = 0; row < Edges.ROWS; row++) {
            int relation = Edges.relation(row);
            int a = Edges.a(row);
            int b = Edges.b(row);
            LiftedOdds x = new LiftedOdds();
            checks.due("new", x.weightWith(relation, a, b), 0);
            x.row(relation, (a + 1) % 3, b, 10);
            x.row(relation, a, (b + 1) % 3, 10);
            x.row((relation + 1) % 4, a, b, 10);
            checks.due("others listed, empty query", x.weightWith(relation, a, b), 0);
            x.atom((relation + 1) % 4, 0, 1);
            checks.due("others listed and asked for", x.weightWith(relation, a, b), 0);
            x.row(relation, a, b, 10);
            checks.due("listed", x.weightWith(relation, a, b), 10_000);
            x.drop(relation, a, b);
            checks.due("dropped", x.weightWith(relation, a, b), 0);
        }
        LiftedOdds full = Edges.listed(10, 10);
        full.row(3, 2, 2, 10);
        checks.due("refused as eleventh", full.weightWith(3, 2, 2), 0);
    }

    private static void weightWithOfNoRow() {
        checks.sentence("promise 8", "0 if there is no such row");
        noRow((state, x, relation, a, b) ->
                checks.due(state + ": weightWith" + Edges.triple(relation, a, b), x.weightWith(relation, a, b), 0));
    }

    private static void weightWithAtTheEndsOfTheWeights() {
        checks.sentence("promise 8", "and the row (relation, a, b) is there");
        LiftedOdds x = new LiftedOdds();
        x.row(0, 0, 0, 0);
        x.row(1, 1, 1, 10);
        checks.due("never there", x.weightWith(0, 0, 0), 0);
        checks.due("always there", x.weightWith(1, 1, 1), 100);
        x.atom(0, 0, 0);
        checks.due("always there, the query in worlds of weight 0", x.weightWith(1, 1, 1), 0);
        x.row(0, 2, 2, 3);
        checks.due("always there, the query by another row", x.weightWith(1, 1, 1), 300);
        x.atom(2, 0, 0);
        checks.due("always there, the query in no world", x.weightWith(1, 1, 1), 0);
    }

    private static void weightWithoutOfARowNotListed() {
        checks.sentence("promise 9", "If the row is not listed, it is weight()");
        for (int row = 0; row < Edges.ROWS; row++) {
            int relation = Edges.relation(row);
            int a = Edges.a(row);
            int b = Edges.b(row);
            LiftedOdds x = new LiftedOdds();
            checks.due("new", x.weightWithout(relation, a, b), 1);
            x.row(relation, (a + 1) % 3, b, 2);
            x.row((relation + 1) % 4, a, b, 7);
            checks.due("others listed, empty query", x.weightWithout(relation, a, b), 100);
            x.atom((relation + 1) % 4, 0, a == b ? 0 : 1);
            checks.due("others listed and asked for", x.weightWithout(relation, a, b), 70);
            x.row(relation, a, b, 4);
            checks.due("listed", x.weightWithout(relation, a, b), 420);
            x.drop(relation, a, b);
            checks.due("dropped", x.weightWithout(relation, a, b), 70);
            checks.due("dropped: weight()", x.weight(), 70);
        }
        LiftedOdds full = Edges.listed(10, 10);
        full.row(3, 2, 2, 10);
        checks.due("refused as eleventh", full.weightWithout(3, 2, 2), 10_000_000_000L);
        full.atom(3, 0, 0);
        checks.due("refused, and asked for", full.weightWithout(3, 2, 2), 0);
    }

    private static void weightWithoutOfNoRow() {
        checks.sentence("promise 9", "or there is no such row");
        noRow((state, x, relation, a, b) -> checks.due(state + ": weightWithout" + Edges.triple(relation, a, b),
                x.weightWithout(relation, a, b), x.weight()));
    }

    private static void weightWithoutAtTheEndsOfTheWeights() {
        checks.sentence("promise 9", "and the row is absent");
        LiftedOdds x = new LiftedOdds();
        x.row(0, 0, 0, 0);
        x.row(1, 1, 1, 10);
        checks.due("always absent", x.weightWithout(0, 0, 0), 100);
        checks.due("never absent", x.weightWithout(1, 1, 1), 0);
        x.atom(1, 2, 2);
        checks.due("always absent, the query by another row", x.weightWithout(0, 0, 0), 100);
        checks.due("the one row that the query asks for", x.weightWithout(1, 1, 1), 0);
        x.row(1, 0, 0, 4);
        checks.due("one row of two that the query asks for", x.weightWithout(1, 0, 0), 600);
        x.atom(2, 0, 0);
        checks.due("always absent, the query in no world", x.weightWithout(0, 0, 0), 0);
    }

    private interface Question {
        void ask(String state, LiftedOdds x, int relation, int a, int b);
    }

    /** Asks of triples that are no row, of an object that is new, one in use and one with ten certain rows. */
    private static void noRow(Question question) {
        for (int k = 0; k < Edges.beside(2).length; k++) {
            int relation = Edges.beside(3)[k];
            int value = Edges.beside(2)[k];
            LiftedOdds[] objects = {Edges.empty(), Edges.some(), Edges.listed(10, 10)};
            String[] states = {"new", "in use", "full"};
            for (int n = 0; n < objects.length; n++) {
                question.ask(states[n], objects[n], relation, 0, 1);
                question.ask(states[n], objects[n], relation, 0, 0);
                question.ask(states[n], objects[n], 0, value, 1);
                question.ask(states[n], objects[n], 1, value, 1);
                question.ask(states[n], objects[n], 0, 0, value);
                question.ask(states[n], objects[n], 1, 1, value);
                question.ask(states[n], objects[n], 1, -2, -2);
                question.ask(states[n], objects[n], 0, -1, 4);
                question.ask(states[n], objects[n], -1, 3, 1);
            }
        }
    }

    private static void worldsFromNoneToAll() {
        checks.sentence("promise 10", "How many worlds there are in which the query holds");
        for (int count = 0; count <= 10; count++) {
            LiftedOdds x = Edges.listed(count, 5);
            checks.due("empty query, rows " + count, x.worlds(), 1 << count);
            x.atom(0, 0, 1);
            int asked = count < 9 ? count : 9;
            int others = count - asked;
            checks.due("any row of relation 0, rows " + count, x.worlds(), ((1 << asked) - 1) << others);
            x.atom(3, 0, 1);
            checks.due("and one of relation 3, rows " + count, x.worlds(), 0);
        }
        LiftedOdds x = new LiftedOdds();
        for (int relation = 0; relation < 3; relation++) {
            for (int value = 0; value < 3; value++) {
                x.row(relation, value, value, 5);
            }
            x.atom(relation, relation, relation);
        }
        checks.due("any row of each of three relations", x.worlds(), 7 * 7 * 7);
        x.row(3, 0, 1, 5);
        checks.due("and a row that the query does not ask for", x.worlds(), 7 * 7 * 7 * 2);
    }

    private static void worldsOfWeightNothingCount() {
        checks.sentence("promise 10", "each counts one, whatever its weight");
        for (int weight = 0; weight <= 10; weight++) {
            LiftedOdds x = Edges.listed(10, weight);
            checks.due("empty query, weight " + weight, x.worlds(), 1024);
            x.atom(1, 0, 0);
            checks.due("half of the worlds, weight " + weight, x.worlds(), 512);
        }
    }

    private static void heaviestByTheGreatestWeight() {
        checks.sentence("promise 11", "the one with the greatest weight");
        for (int light = 0; light < 10; light++) {
            LiftedOdds x = Edges.listed(10, 9);
            x.row(Edges.relation(light), Edges.a(light), Edges.b(light), 1);
            // Weights of such worlds are over 3,000,000,000: too great for an int.
            checks.due("all but row " + light, x.heaviest(), 1023 - (1 << light));
            x.row(Edges.relation(light), Edges.a(light), Edges.b(light), 6);
            checks.due("all with row " + light, x.heaviest(), 1023);
        }
        checks.due("ten certain rows", Edges.listed(10, 10).heaviest(), 1023);
        checks.due("ten impossible rows", Edges.listed(10, 0).heaviest(), 0);
        LiftedOdds forced = Edges.listed(10, 0);
        forced.atom(1, 0, 0);
        forced.row(1, 0, 0, 1);
        checks.due("one of little weight that the query asks for", forced.heaviest(), 512);
    }

    private static void heaviestOfSeveralIsTheLeast() {
        checks.sentence("promise 11", "of several the one with the least number");
        for (int count = 0; count <= 10; count++) {
            checks.due("all alike, rows " + count, Edges.listed(count, 5).heaviest(), 0);
        }
        for (int even = 0; even < 10; even++) {
            LiftedOdds x = Edges.listed(10, 8);
            x.row(Edges.relation(even), Edges.a(even), Edges.b(even), 5);
            checks.due("row " + even + " there or not alike", x.heaviest(), 1023 - (1 << even));
        }
        for (int weight = 0; weight <= 5; weight++) {
            LiftedOdds x = Edges.listed(9, weight);
            x.atom(0, 2, 1);
            checks.due("any row of weight " + weight, x.heaviest(), 1);
        }
        LiftedOdds nothing = Edges.listed(9, 0);
        nothing.row(1, 2, 2, 10);
        nothing.atom(0, 0, 1);
        checks.due("all of weight 0", nothing.heaviest(), 1);
        nothing.atom(1, 2, 2);
        checks.due("all of weight 0 and the last row", nothing.heaviest(), 513);
    }

    private static void heaviestOfNoWorld() {
        checks.sentence("promise 11", "-1 if the query holds in no world");
        for (int count = 0; count <= 10; count++) {
            LiftedOdds x = Edges.listed(count, 10);
            x.atom(3, 1, 2);
            checks.due("no row of relation 3, rows " + count, x.heaviest(), -1);
            x.clearQuery();
            checks.due("empty query, rows " + count, x.heaviest(), (1 << count) - 1);
        }
        LiftedOdds unlike = new LiftedOdds();
        unlike.row(0, 0, 1, 10);
        unlike.row(1, 2, 2, 10);
        unlike.atom(0, 0, 1);
        unlike.atom(1, 1, 1);
        checks.due("rows that do not fit together", unlike.heaviest(), -1);
        LiftedOdds nothing = new LiftedOdds();
        nothing.row(0, 0, 1, 0);
        nothing.atom(0, 0, 1);
        checks.due("a world of weight 0 is one", nothing.heaviest(), 1);
    }

    private static void heaviestNumbersTheRows() {
        checks.sentence("promise 11", "bit k set exactly if the k-th listed row (from 0) is there");
        for (int k = 0; k < Edges.FULL; k++) {
            LiftedOdds x = Edges.full();
            x.clearQuery();
            for (int other = 0; other < Edges.FULL; other++) {
                int row = Edges.fullRow(other);
                x.row(Edges.relation(row), Edges.a(row), Edges.b(row), other == k ? 10 : 0);
            }
            checks.due("only row " + k, x.heaviest(), 1 << k);
            int row = Edges.fullRow(0);
            x.drop(Edges.relation(row), Edges.a(row), Edges.b(row));
            checks.due("only row " + k + ", one fewer before it", x.heaviest(), (1 << k) / 2);
        }
    }

    private static void heaviestOrdersTheRows() {
        checks.sentence("promise 11", "in ascending order of relation, then a, then b");
        for (int one = 0; one < Edges.ROWS; one++) {
            for (int other = 0; other < Edges.ROWS; other++) {
                if (one != other) {
                    LiftedOdds x = new LiftedOdds();
                    x.row(Edges.relation(one), Edges.a(one), Edges.b(one), 10);
                    x.row(Edges.relation(other), Edges.a(other), Edges.b(other), 0);
                    checks.due("row " + one + " there, not " + other, x.heaviest(), one < other ? 1 : 2);
                }
            }
        }
    }
}
