/** Promises 7, 8 and 9: getStatus, getTotalCost and getShortfall. */
public final class Promise07To09ResultTest {
    public static void main(String[] args) {
        Check.sentence("7: answers the status set by the last `solve()`", Promise07To09ResultTest::lastStatus);
        Check.sentence("7: answers `STATUS_NONE` if `solve()` has not been called since construction",
            Promise07To09ResultTest::noStatusAtFirst);
        Check.sentence("7: or since the latest RESET", Promise07To09ResultTest::noStatusAfterReset);
        Check.sentence("7: the status stays when a call is refused", Promise07To09ResultTest::statusStaysWhenRefused);
        Check.sentence("7: It changes nothing", Promise07To09ResultTest::statusChangesNothing);

        Check.sentence("8: answers the least feasible cost when the status is `STATUS_OPTIMAL`",
            Promise07To09ResultTest::costWhenOptimal);
        Check.sentence("8: otherwise it answers 0: under `STATUS_NONE`", Promise07To09ResultTest::noCostUnsolved);
        Check.sentence("8: otherwise it answers 0: under `STATUS_INFEASIBLE`",
            Promise07To09ResultTest::noCostWhenInfeasible);
        Check.sentence("8: otherwise it answers 0: under `STATUS_UNBALANCED`",
            Promise07To09ResultTest::noCostWhenUnbalanced);
        Check.sentence("8: It changes nothing", Promise07To09ResultTest::costChangesNothing);

        Check.sentence("9: answers the shortfall set by the last `solve()`", Promise07To09ResultTest::lastShortfall);
        Check.sentence("9: It is 0 unless the status is `STATUS_INFEASIBLE`, in which case it is greater than 0",
            Promise07To09ResultTest::shortfallOnlyWhenInfeasible);
        Check.sentence("9: After construction or RESET it is 0", Promise07To09ResultTest::noShortfallUnsolved);
        Check.sentence("9: It changes nothing", Promise07To09ResultTest::shortfallChangesNothing);
        Check.end();
    }

    /** One arc of capacity 10 and cost 7; node 0 gives and node 1 takes. */
    private static NetworkSimplex pair(int given, int taken) {
        NetworkSimplex x = new NetworkSimplex(2);
        x.addArc(0, 1, 10, 7);
        x.setSupply(0, given);
        x.setSupply(1, -taken);
        return x;
    }

    private static void lastStatus() {
        NetworkSimplex x = pair(6, 0);
        x.solve();
        Check.due("unbalanced", x.getStatus(), NetworkSimplex.STATUS_UNBALANCED);
        x.setSupply(1, -6);
        x.solve();
        Check.due("optimal", x.getStatus(), NetworkSimplex.STATUS_OPTIMAL);
        x.setCapacity(0, 1);
        x.solve();
        Check.due("infeasible", x.getStatus(), NetworkSimplex.STATUS_INFEASIBLE);
        x.setSupply(1, -5);
        x.solve();
        Check.due("unbalanced after infeasible", x.getStatus(), NetworkSimplex.STATUS_UNBALANCED);
    }

    private static void noStatusAtFirst() {
        for (int nodes : Edges.all()) {
            NetworkSimplex x = new NetworkSimplex(nodes);
            Check.due("getStatus() of a new object", x.getStatus(), NetworkSimplex.STATUS_NONE);
            x.addArc(0, 1, 1, 1);
            x.setSupply(0, 1);
            x.setSupply(1, -1);
            x.setCapacity(0, 2);
            x.setCost(0, 2);
            Check.due("getStatus() before the first solve()", x.getStatus(), NetworkSimplex.STATUS_NONE);
        }
    }

    private static void noStatusAfterReset() {
        for (int change = 0; change < States.CHANGES; change++) {
            for (NetworkSimplex x : States.withTwoArcs()) {
                States.storeAnother(change, x);
                Check.due("getStatus() after change " + change, x.getStatus(), NetworkSimplex.STATUS_NONE);
                x.solve();
                States.storeTheSame(change, x);
                Check.due("getStatus() after change " + change + " to the same", x.getStatus(),
                    NetworkSimplex.STATUS_NONE);
            }
        }
    }

    private static void statusStaysWhenRefused() {
        for (int change = 0; change < States.CHANGES; change++) {
            for (NetworkSimplex x : States.all()) {
                int before = x.getStatus();
                States.tryRefused(change, x);
                Check.due("getStatus() after refused change " + change, x.getStatus(), before);
            }
        }
    }

    private static void statusChangesNothing() {
        for (NetworkSimplex x : States.all()) {
            String before = Check.all(x);
            int first = x.getStatus();
            Check.due("getStatus() again", x.getStatus(), first);
            Check.due("after getStatus()", Check.all(x), before);
        }
    }

    private static void costWhenOptimal() {
        NetworkSimplex x = pair(6, 6);
        x.solve();
        Check.due("above 0", x.getTotalCost(), 42);
        x.setCost(0, -7);
        x.solve();
        Check.due("below 0", x.getTotalCost(), -42);
        x.setCost(0, 0);
        x.solve();
        Check.due("at 0", x.getTotalCost(), 0);
        NetworkSimplex dearest = Networks.dearest(20, 50);
        dearest.solve();
        Check.due("the greatest", dearest.getTotalCost(), 96000);
        NetworkSimplex cheapest = Networks.dearest(20, -50);
        cheapest.solve();
        Check.due("the least", cheapest.getTotalCost(), -96000);
    }

    private static void noCostUnsolved() {
        Check.due("getTotalCost() of a new object", new NetworkSimplex(9).getTotalCost(), 0);
        Check.due("getTotalCost() before solve()", pair(6, 6).getTotalCost(), 0);
        for (int change = 0; change < States.CHANGES; change++) {
            NetworkSimplex x = States.optimal();
            States.storeTheSame(change, x);
            Check.due("getTotalCost() after change " + change, x.getTotalCost(), 0);
        }
    }

    /** Part of the demand can be met, at a cost; that cost must not be told. */
    private static void noCostWhenInfeasible() {
        for (int cost : new int[] {-50, -1, 1, 50}) {
            NetworkSimplex x = pair(11, 11);
            x.setCost(0, cost);
            x.solve();
            Check.due("getStatus()", x.getStatus(), NetworkSimplex.STATUS_INFEASIBLE);
            Check.due("getTotalCost() at cost " + cost, x.getTotalCost(), 0);
        }
        // Node 23 lies apart from a cycle that would pay.
        NetworkSimplex y = new NetworkSimplex(24);
        for (int v = 0; v < 23; v++) {
            y.addArc(v, (v + 1) % 23, 20, -50);
        }
        y.solve();
        Check.due("getTotalCost() of a cheap cycle", y.getTotalCost(), -23000);
        y.setSupply(0, 1);
        y.setSupply(23, -1);
        y.solve();
        Check.due("getTotalCost() of a cheap cycle beside a demand", y.getTotalCost(), 0);
    }

    private static void noCostWhenUnbalanced() {
        for (int cost : new int[] {-50, -1, 1, 50}) {
            NetworkSimplex x = pair(6, 5);
            x.setCost(0, cost);
            x.solve();
            Check.due("getStatus()", x.getStatus(), NetworkSimplex.STATUS_UNBALANCED);
            Check.due("getTotalCost() at cost " + cost, x.getTotalCost(), 0);
        }
    }

    private static void costChangesNothing() {
        for (NetworkSimplex x : States.all()) {
            String before = Check.all(x);
            int first = x.getTotalCost();
            Check.due("getTotalCost() again", x.getTotalCost(), first);
            Check.due("after getTotalCost()", Check.all(x), before);
        }
    }

    private static void lastShortfall() {
        NetworkSimplex x = pair(20, 20);
        x.solve();
        Check.due("20 over 10", x.getShortfall(), 10);
        x.setCapacity(0, 0);
        x.solve();
        Check.due("20 over 0", x.getShortfall(), 20);
        x.setCapacity(0, 19);
        x.solve();
        Check.due("20 over 19", x.getShortfall(), 1);
        x.setCapacity(0, 20);
        x.solve();
        Check.due("20 over 20", x.getShortfall(), 0);
        NetworkSimplex y = Networks.halves(20, -20);
        y.solve();
        Check.due("the greatest", y.getShortfall(), 240);
    }

    private static void shortfallOnlyWhenInfeasible() {
        for (NetworkSimplex x : States.all()) {
            boolean infeasible = x.getStatus() == NetworkSimplex.STATUS_INFEASIBLE;
            Check.due("getShortfall() > 0 at status " + x.getStatus(), x.getShortfall() > 0, infeasible);
            Check.due("getShortfall() != 0 at status " + x.getStatus(), x.getShortfall() != 0, infeasible);
        }
        NetworkSimplex y = pair(20, 19);
        y.setCapacity(0, 0);
        y.solve();
        Check.due("unbalanced and short of capacity", y.getShortfall(), 0);
    }

    private static void noShortfallUnsolved() {
        Check.due("getShortfall() of a new object", new NetworkSimplex(9).getShortfall(), 0);
        Check.due("getShortfall() before solve()", pair(20, 20).getShortfall(), 0);
        for (int change = 0; change < States.CHANGES; change++) {
            NetworkSimplex x = States.infeasible();
            States.storeTheSame(change, x);
            Check.due("getShortfall() after change " + change, x.getShortfall(), 0);
        }
    }

    private static void shortfallChangesNothing() {
        for (NetworkSimplex x : States.all()) {
            String before = Check.all(x);
            int first = x.getShortfall();
            Check.due("getShortfall() again", x.getShortfall(), first);
            Check.due("after getShortfall()", Check.all(x), before);
        }
    }
}
