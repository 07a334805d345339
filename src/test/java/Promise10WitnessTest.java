/** Promise 10: inWitness and getWitnessSize. */
public final class Promise10WitnessTest {
    public static void main(String[] args) {
        emptyUnlessInfeasible();
        wholeWitness();
        outOfRange();
        sizeCountsMembers();
        clearedByChanges();
        changeNothing();
        Check.end();
    }

    private static void emptyUnlessInfeasible() {
        for (NetworkSimplex x : Check.ofEachStatus()) {
            boolean infeasible = x.getStatus() == NetworkSimplex.STATUS_INFEASIBLE;
            Check.due("getWitnessSize() at status " + x.getStatus(), x.getWitnessSize(), infeasible ? 1 : 0);
            for (int v = -3; v < 30; v++) {
                Check.due("inWitness(" + v + ") at status " + x.getStatus(), x.inWitness(v), infeasible && v == 2);
            }
        }
    }

    private static NetworkSimplex starving(int nodes) {
        NetworkSimplex x = new NetworkSimplex(nodes);
        x.setSupply(0, 20);
        for (int v = 1; v < nodes; v++) {
            x.setSupply(v, v == 1 ? -20 : 0);
            x.addArc(v, v == 1 ? 2 : 1, 5, 3);
        }
        x.solve();
        return x;
    }

    /** All nodes but the one with supply reach the demand: the last node's number counts too. */
    private static void wholeWitness() {
        for (int nodes = 3; nodes <= 24; nodes++) {
            NetworkSimplex x = starving(nodes);
            Check.due("shortfall", x.getShortfall(), 20);
            Check.due("getWitnessSize()", x.getWitnessSize(), nodes - 1);
            for (int v = 0; v < nodes; v++) {
                Check.due("inWitness(" + v + ") of " + nodes, x.inWitness(v), v > 0);
            }
            Check.due("inWitness(" + nodes + ")", x.inWitness(nodes), false);
        }
    }

    private static void outOfRange() {
        for (NetworkSimplex x : new NetworkSimplex[] {starving(3), starving(24), Check.optimal(), Check.unbalanced()}) {
            for (int v : Check.EXTREMES) {
                Check.due("inWitness(" + v + ")", x.inWitness(v), false);
            }
            for (int v = x.getNodeCount(); v < 100; v++) {
                Check.due("inWitness(" + v + ")", x.inWitness(v), false);
            }
        }
    }

    private static void sizeCountsMembers() {
        for (int seed = 0; seed < 500; seed++) {
            Numbers numbers = new Numbers(40000 + seed);
            int nodes = numbers.from(2, 24);
            NetworkSimplex x = numbers.network(nodes, numbers.from(0, 60), 6, -50, 50);
            numbers.balance(x, 8, 20);
            x.solve();
            int size = 0;
            for (int v = 0; v < nodes; v++) {
                size += x.inWitness(v) ? 1 : 0;
            }
            Check.due("getWitnessSize()", x.getWitnessSize(), size);
            Check.due("the witness is nonempty", size > 0, x.getStatus() == NetworkSimplex.STATUS_INFEASIBLE);
        }
    }

    private static void clearedByChanges() {
        for (int change = 0; change < 4; change++) {
            NetworkSimplex x = starving(24);
            boolean done = change == 0 ? x.addArc(0, 1, 0, 0) >= 0
                : change == 1 ? x.setSupply(23, 0)
                : change == 2 ? x.setCapacity(0, 5)
                : x.setCost(0, 3);
            Check.due("change " + change, done, true);
            Check.due("result after change " + change, Check.result(x), Check.NO_RESULT);
        }
        NetworkSimplex x = starving(24);
        x.setSupply(0, 0);
        x.setSupply(1, 0);
        x.solve();
        Check.due("getWitnessSize() once feasible", x.getWitnessSize(), 0);
        Check.due("inWitness(1) once feasible", x.inWitness(1), false);
    }

    private static void changeNothing() {
        for (NetworkSimplex x : Check.ofEachStatus()) {
            String before = Check.all(x);
            for (int v = -2; v < 26; v++) {
                x.inWitness(v);
                x.getWitnessSize();
            }
            Check.due("after the getters", Check.all(x), before);
        }
    }
}
