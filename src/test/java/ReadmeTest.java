/** The example of README.md, line by line: if one of the two is changed, so must the other be. */
public final class ReadmeTest {
    private static final Checks checks = new Checks();

    public static void main(String[] args) {
        LiftedOdds odds = new LiftedOdds();
        checks.due("row(0, 0, 0, 5)", odds.row(0, 0, 0, 5), 1);
        checks.due("row(1, 0, 1, 7)", odds.row(1, 0, 1, 7), 2);
        checks.due("atom(0, 0, 0)", odds.atom(0, 0, 0), 1);
        checks.due("atom(1, 0, 1)", odds.atom(1, 0, 1), 2);
        checks.due("nested()", odds.nested(), true);
        checks.due("weight()", odds.weight(), 35);
        checks.due("weightWith(0, 0, 0)", odds.weightWith(0, 0, 0), 35);
        checks.due("weightWithout(0, 0, 0)", odds.weightWithout(0, 0, 0), 0);
        checks.due("worlds()", odds.worlds(), 1);
        checks.due("heaviest()", odds.heaviest(), 3);
        checks.due("drop(1, 0, 1)", odds.drop(1, 0, 1), 1);
        checks.due("heaviest() after the drop", odds.heaviest(), -1);
        odds.clearQuery();
        checks.due("weight() of the empty query", odds.weight(), 10);
        checks.end();
    }
}
