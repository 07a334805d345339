/** Promises 7, 8 and 9: getStatus, getTotalCost and getShortfall. */
public final class Promise07To09ResultTest {
    public static void main(String[] args) {
        fresh();
        afterEachOutcome();
        afterReset();
        changeNothing();
        Check.end();
    }

    private static void answers(String when, NetworkSimplex x, int status, int cost, int shortfall) {
        Check.due("getStatus() " + when, x.getStatus(), status);
        Check.due("getTotalCost() " + when, x.getTotalCost(), cost);
        Check.due("getShortfall() " + when, x.getShortfall(), shortfall);
    }

    private static void fresh() {
        answers("of a new object", new NetworkSimplex(9), NetworkSimplex.STATUS_NONE, 0, 0);
    }

    private static void afterEachOutcome() {
        NetworkSimplex x = new NetworkSimplex(2);
        x.addArc(0, 1, 10, 7);
        x.setSupply(0, 6);
        answers("before solve()", x, NetworkSimplex.STATUS_NONE, 0, 0);
        x.solve();
        answers("unbalanced", x, NetworkSimplex.STATUS_UNBALANCED, 0, 0);
        x.setSupply(1, -6);
        x.solve();
        answers("optimal", x, NetworkSimplex.STATUS_OPTIMAL, 42, 0);
        x.setCapacity(0, 1);
        x.solve();
        answers("infeasible", x, NetworkSimplex.STATUS_INFEASIBLE, 0, 5);
        x.setSupply(1, -5);
        x.solve();
        answers("unbalanced after infeasible", x, NetworkSimplex.STATUS_UNBALANCED, 0, 0);
        x.setSupply(0, 1);
        x.setSupply(1, -1);
        x.setCost(0, -7);
        x.solve();
        answers("optimal below 0", x, NetworkSimplex.STATUS_OPTIMAL, -7, 0);
        x.setCost(0, 0);
        x.solve();
        answers("optimal at 0", x, NetworkSimplex.STATUS_OPTIMAL, 0, 0);
    }

    private static void afterReset() {
        for (int change = 0; change < 4; change++) {
            for (NetworkSimplex x : Check.ofEachStatus()) {
                switch (change) {
                    case 0:
                        x.addArc(1, 0, 1, 1);
                        break;
                    case 1:
                        x.setSupply(2, 3);
                        break;
                    case 2:
                        x.setCapacity(0, 1);
                        break;
                    default:
                        x.setCost(0, 1);
                        break;
                }
                answers("after change " + change, x, NetworkSimplex.STATUS_NONE, 0, 0);
            }
        }
    }

    private static void changeNothing() {
        for (NetworkSimplex x : Check.ofEachStatus()) {
            String before = Check.all(x);
            for (int i = 0; i < 3; i++) {
                x.getStatus();
                x.getTotalCost();
                x.getShortfall();
                Check.due("after the getters", Check.all(x), before);
            }
        }
    }
}
