/** Promise 10: inWitness and getWitnessSize. */
public final class Promise10WitnessTest {
    public static void main(String[] args) {
        Check.sentence("`inWitness(node)` answers true exactly when `node` is in the current witness",
            Promise10WitnessTest::exactlyTheWitness);
        Check.sentence("It answers false for any node out of range: `node < 0`, whatever the state",
            Promise10WitnessTest::nodeTooSmall);
        Check.sentence("It answers false for any node out of range: `node >= getNodeCount()`, whatever the state",
            Promise10WitnessTest::nodeTooLarge);
        Check.sentence("`getWitnessSize()` answers the number of nodes in the current witness",
            Promise10WitnessTest::sizeCountsMembers);
        Check.sentence("It is 0 unless the status is `STATUS_INFEASIBLE`, in which case it is at least 1",
            Promise10WitnessTest::sizeOnlyWhenInfeasible);
        Check.sentence("in which case it is at least 1: the smallest and the largest witness",
            Promise10WitnessTest::smallestAndLargest);
        Check.sentence("Under `STATUS_NONE` ... the witness is empty", Promise10WitnessTest::emptyWhenUnsolved);
        Check.sentence("Under ... `STATUS_OPTIMAL` ... the witness is empty", Promise10WitnessTest::emptyWhenOptimal);
        Check.sentence("Under ... `STATUS_UNBALANCED` the witness is empty",
            Promise10WitnessTest::emptyWhenUnbalanced);
        Check.sentence("Neither method changes anything: `inWitness`", Promise10WitnessTest::inWitnessChangesNothing);
        Check.sentence("Neither method changes anything: `getWitnessSize`", Promise10WitnessTest::sizeChangesNothing);
        Check.end();
    }

    /** Node 0 gives 20 and node 1 takes them, but only the other nodes lead to node 1. */
    private static NetworkSimplex starving(int nodes) {
        NetworkSimplex x = new NetworkSimplex(nodes);
        x.setSupply(0, 20);
        x.setSupply(1, -20);
        for (int v = 2; v < nodes; v++) {
            x.addArc(v, 1, 5, 3);
        }
        x.addArc(1, 0, 20, 0);
        x.solve();
        return x;
    }

    /** One node gives all it can, the others take one each as long as it lasts, and there are no arcs. */
    private static NetworkSimplex apart(int nodes, int giver) {
        NetworkSimplex x = new NetworkSimplex(nodes);
        int given = 0;
        for (int v = 0; v < nodes; v++) {
            if (v != giver && given < 20) {
                x.setSupply(v, -1);
                given++;
            }
        }
        x.setSupply(giver, given);
        x.solve();
        return x;
    }

    private static void exactlyTheWitness() {
        for (int nodes = 2; nodes <= 24; nodes++) {
            NetworkSimplex x = starving(nodes);
            Check.due("getShortfall()", x.getShortfall(), 20);
            for (int v = 0; v < nodes; v++) {
                Check.due("inWitness(" + v + ") of " + nodes, x.inWitness(v), v > 0);
            }
            for (int giver = 0; giver < nodes; giver++) {
                NetworkSimplex y = apart(nodes, giver);
                Check.due("solve() of " + nodes + " nodes, giver " + giver, y.getStatus(),
                    NetworkSimplex.STATUS_INFEASIBLE);
                for (int v = 0; v < nodes; v++) {
                    Check.due("inWitness(" + v + ") of " + nodes + ", giver " + giver, y.inWitness(v),
                        y.getSupply(v) < 0);
                }
            }
        }
    }

    private static void nodeTooSmall() {
        for (NetworkSimplex x : States.all()) {
            for (int node : Edges.below(0)) {
                Check.due("inWitness(" + node + ")", x.inWitness(node), false);
            }
        }
        for (int nodes = 2; nodes <= 24; nodes++) {
            NetworkSimplex withFirst = apart(nodes, nodes - 1);
            NetworkSimplex withLast = starving(nodes);
            for (int node : Edges.below(0)) {
                Check.due("inWitness(" + node + ") of " + nodes, withFirst.inWitness(node), false);
                Check.due("inWitness(" + node + ") of " + nodes, withLast.inWitness(node), false);
            }
        }
    }

    private static void nodeTooLarge() {
        for (NetworkSimplex x : States.all()) {
            for (int node : Edges.above(x.getNodeCount() - 1)) {
                Check.due("inWitness(" + node + ")", x.inWitness(node), false);
            }
        }
        for (int nodes = 2; nodes <= 24; nodes++) {
            NetworkSimplex withFirst = apart(nodes, nodes - 1);
            NetworkSimplex withLast = starving(nodes);
            for (int node : Edges.above(nodes - 1)) {
                Check.due("inWitness(" + node + ") of " + nodes, withFirst.inWitness(node), false);
                Check.due("inWitness(" + node + ") of " + nodes, withLast.inWitness(node), false);
            }
        }
    }

    private static int members(NetworkSimplex x) {
        int size = 0;
        for (int v = 0; v < x.getNodeCount(); v++) {
            size += x.inWitness(v) ? 1 : 0;
        }
        return size;
    }

    private static void sizeCountsMembers() {
        for (NetworkSimplex x : States.all()) {
            Check.due("getWitnessSize()", x.getWitnessSize(), members(x));
        }
        for (int seed = 0; seed < 500; seed++) {
            Numbers numbers = new Numbers(40000 + seed);
            int nodes = numbers.from(2, 24);
            NetworkSimplex x = numbers.network(nodes, numbers.from(0, 60), 6, -50, 50);
            numbers.balance(x, 8, 20);
            x.solve();
            Check.due("getWitnessSize()", x.getWitnessSize(), members(x));
        }
    }

    private static void sizeOnlyWhenInfeasible() {
        for (NetworkSimplex x : States.all()) {
            boolean infeasible = x.getStatus() == NetworkSimplex.STATUS_INFEASIBLE;
            Check.due("getWitnessSize() >= 1 at status " + x.getStatus(), x.getWitnessSize() >= 1, infeasible);
            Check.due("getWitnessSize() != 0 at status " + x.getStatus(), x.getWitnessSize() != 0, infeasible);
        }
    }

    private static void smallestAndLargest() {
        Check.due("getWitnessSize() of one node", States.infeasible().getWitnessSize(), 1);
        for (int nodes = 2; nodes <= 24; nodes++) {
            Check.due("getWitnessSize() of all but one of " + nodes, starving(nodes).getWitnessSize(), nodes - 1);
        }
    }

    private static void isEmpty(String when, NetworkSimplex x) {
        Check.due("getWitnessSize() " + when, x.getWitnessSize(), 0);
        for (int node : Edges.all()) {
            Check.due("inWitness(" + node + ") " + when, x.inWitness(node), false);
        }
    }

    private static void emptyWhenUnsolved() {
        isEmpty("of a new object", new NetworkSimplex(24));
        for (int change = 0; change < States.CHANGES; change++) {
            NetworkSimplex x = starving(24);
            Check.due("change " + change, States.storeTheSame(change, x), true);
            isEmpty("after change " + change, x);
        }
    }

    private static void emptyWhenOptimal() {
        isEmpty("when optimal", States.optimal());
        NetworkSimplex x = starving(24);
        x.setSupply(0, 0);
        x.setSupply(1, 0);
        Check.due("solve() once feasible", x.solve(), NetworkSimplex.STATUS_OPTIMAL);
        isEmpty("once feasible", x);
        NetworkSimplex y = Networks.line(24, 20, 0);
        y.setSupply(0, 20);
        y.setSupply(23, -20);
        Check.due("solve() with every cut full", y.solve(), NetworkSimplex.STATUS_OPTIMAL);
        isEmpty("with every cut full", y);
    }

    private static void emptyWhenUnbalanced() {
        isEmpty("when unbalanced", States.unbalanced());
        for (int amount : new int[] {-20, -1, 1, 20}) {
            NetworkSimplex x = starving(24);
            x.setSupply(23, amount);
            Check.due("solve() once unbalanced", x.solve(), NetworkSimplex.STATUS_UNBALANCED);
            isEmpty("once unbalanced", x);
        }
    }

    private static void inWitnessChangesNothing() {
        for (NetworkSimplex x : States.all()) {
            String before = Check.all(x);
            for (int node : Edges.all()) {
                x.inWitness(node);
            }
            Check.due("after inWitness", Check.all(x), before);
        }
    }

    private static void sizeChangesNothing() {
        for (NetworkSimplex x : States.all()) {
            String before = Check.all(x);
            int first = x.getWitnessSize();
            Check.due("getWitnessSize() again", x.getWitnessSize(), first);
            Check.due("after getWitnessSize()", Check.all(x), before);
        }
    }
}
