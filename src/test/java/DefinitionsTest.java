/** The section "What it is": what nodes, arcs, flows and node sets are, and what solving reports. */
public final class DefinitionsTest {
    public static void main(String[] args) {
        Check.sentence("Nodes are `0 .. getNodeCount()-1`", DefinitionsTest::nodesFromZero);
        Check.sentence("Arcs are numbered `0, 1, 2, ...` in the order `addArc` accepted them",
            DefinitionsTest::arcsInOrder);
        Check.sentence("An arc k has a tail, a head, a capacity cap_k and a cost c_k", DefinitionsTest::arcHasFour);
        Check.sentence("Its flow x_k must be an integer with `0 <= x_k <= cap_k`: not below 0",
            DefinitionsTest::flowIsNotNegative);
        Check.sentence("Its flow x_k must be an integer with `0 <= x_k <= cap_k`: not above cap_k",
            DefinitionsTest::flowKeepsToCapacity);
        Check.sentence("Node v has a supply b_v; a negative supply means a demand", DefinitionsTest::demands);
        Check.sentence("for every node v, (sum of x_k over arcs with tail v)"
            + " - (sum of x_k over arcs with head v) == b_v", DefinitionsTest::everyNodeKeepsNothing);
        Check.sentence("Its cost is the sum over all arcs of c_k * x_k", DefinitionsTest::costIsTheSum);
        Check.sentence("need(S) = -(sum of b_v over v in S)", DefinitionsTest::need);
        Check.sentence("capIn(S) = sum of cap_k over arcs k whose head is in S and whose tail is not in S",
            DefinitionsTest::capIn);
        Check.sentence("violation(S) = need(S) - capIn(S)", DefinitionsTest::violation);
        Check.sentence("Solving reports one of three outcomes", DefinitionsTest::threeOutcomes);
        Check.sentence("Arcs can be added and supplies, capacities and costs set between solves",
            DefinitionsTest::changesBetweenSolves);
        Check.sentence("Every answer is a uniquely defined value: other names of nodes, another order of arcs",
            DefinitionsTest::namesAndOrderDoNotMatter);
        Check.end();
    }

    private static String optimal(int cost) {
        return "status 1 cost " + cost + " shortfall 0 witness 0:";
    }

    private static NetworkSimplex supplied(int... supplies) {
        NetworkSimplex x = new NetworkSimplex(supplies.length);
        for (int v = 0; v < supplies.length; v++) {
            x.setSupply(v, supplies[v]);
        }
        return x;
    }

    private static void nodesFromZero() {
        for (int nodes = 2; nodes <= 24; nodes++) {
            NetworkSimplex x = new NetworkSimplex(nodes);
            for (int v = -3; v < 30; v++) {
                boolean isNode = v >= 0 && v < nodes;
                Check.due("setSupply(" + v + ", 0) of " + nodes + " nodes", x.setSupply(v, 0), isNode);
                int other = v == 0 ? 1 : 0;
                Check.due("addArc to " + v + " of " + nodes + " nodes", x.addArc(other, v, 1, 1) >= 0, isNode);
                Check.due("addArc from " + v + " of " + nodes + " nodes", x.addArc(v, other, 1, 1) >= 0, isNode);
            }
        }
    }

    private static void arcsInOrder() {
        NetworkSimplex x = new NetworkSimplex(3);
        for (int k = 0; k < 96; k++) {
            x.addArc(k % 3, k % 3, 1, 1);
            Check.due("addArc, accepted after " + k + " others", x.addArc(k % 3, (k + 1) % 3, 1, k - 48), k);
            x.addArc(3, k % 3, 1, 1);
        }
        for (int k = 0; k < 96; k++) {
            Check.due("the cost that arc " + k + " was given", x.getArc(k, NetworkSimplex.FIELD_COST), k - 48);
        }
    }

    private static void arcHasFour() {
        NetworkSimplex x = new NetworkSimplex(24);
        x.addArc(23, 4, 17, -31);
        Check.due("tail", x.getArc(0, NetworkSimplex.FIELD_TAIL), 23);
        Check.due("head", x.getArc(0, NetworkSimplex.FIELD_HEAD), 4);
        Check.due("capacity", x.getArc(0, NetworkSimplex.FIELD_CAP), 17);
        Check.due("cost", x.getArc(0, NetworkSimplex.FIELD_COST), -31);
    }

    /** A flow below 0 would carry units from head to tail, or pay on the dearer of two arcs. */
    private static void flowIsNotNegative() {
        NetworkSimplex x = supplied(-4, 4);
        x.addArc(0, 1, 20, 3);
        Check.solves("an arc from the node that takes", x, "status 2 cost 0 shortfall 4 witness 1: 0");
        NetworkSimplex y = new NetworkSimplex(2);
        y.addArc(0, 1, 5, 1);
        y.addArc(0, 1, 5, 10);
        Check.solves("a dear arc beside a cheap one, nothing to send", y, optimal(0));
    }

    private static void flowKeepsToCapacity() {
        for (int cap = 0; cap <= 20; cap++) {
            NetworkSimplex x = supplied(20, -20);
            x.addArc(0, 1, cap, 1);
            x.addArc(0, 1, 20, 9);
            Check.solves("a cheap arc of capacity " + cap, x, optimal(cap + 9 * (20 - cap)));
            x.setCapacity(1, 19 - cap);
            Check.solves("two arcs of capacity 19 in all, or " + cap, x, cap == 20
                ? optimal(20) : "status 2 cost 0 shortfall 1 witness 1: 1");
        }
    }

    private static void demands() {
        NetworkSimplex x = supplied(0, 6, -6);
        x.addArc(1, 2, 10, 2);
        x.addArc(2, 1, 10, 5);
        Check.solves("node 2 takes", x, optimal(12));
        x.setSupply(1, -6);
        x.setSupply(2, 6);
        Check.solves("node 1 takes", x, optimal(30));
    }

    private static void everyNodeKeepsNothing() {
        NetworkSimplex between = supplied(2, 3, -5);
        between.addArc(0, 1, 20, 10);
        between.addArc(1, 2, 20, 1);
        Check.solves("a node between that gives", between, optimal(2 * 10 + 5));
        between.setSupply(0, 5);
        between.setSupply(1, -3);
        between.setSupply(2, -2);
        Check.solves("a node between that takes", between, optimal(5 * 10 + 2));
        between.setSupply(1, 0);
        between.setSupply(2, -5);
        between.setCapacity(1, 4);
        Check.solves("a node between that could only keep one", between, "status 2 cost 0 shortfall 1 witness 1: 2");
        NetworkSimplex end = new NetworkSimplex(3);
        end.addArc(0, 1, 20, -50);
        end.addArc(1, 2, 20, -50);
        Check.solves("arcs that pay and end at a node that takes nothing", end, optimal(0));
    }

    private static void costIsTheSum() {
        NetworkSimplex x = supplied(7, -2, -5, 0, 0);
        x.addArc(0, 1, 20, 3);
        x.addArc(1, 2, 20, -4);
        x.addArc(3, 4, 6, -9);
        x.addArc(4, 3, 8, 2);
        Check.solves("a line and a cycle apart from it", x, optimal(7 * 3 - 5 * 4 + 6 * (2 - 9)));
    }

    private static void need() {
        for (int inside = -20; inside < 20; inside++) {
            NetworkSimplex x = supplied(20, inside, -20, -inside);
            x.addArc(1, 2, 20, 0);
            x.addArc(0, 3, 20, 0);
            // Node 2 alone has room for all it needs; what node 1 gives or takes counts in the set of both.
            Check.solves("node 1 gives " + inside, x,
                "status 2 cost 0 shortfall " + (20 - inside) + " witness 2: 1 2");
        }
    }

    private static void capIn() {
        NetworkSimplex x = supplied(20, 0, -20, 0);
        x.addArc(0, 1, 3, 0);
        x.addArc(0, 2, 4, 0);
        x.addArc(1, 2, 20, 0);
        Check.solves("arcs from outside to both nodes of the set", x, "status 2 cost 0 shortfall 13 witness 2: 1 2");
        x.addArc(2, 1, 20, -50);
        Check.solves("another arc within the set", x, "status 2 cost 0 shortfall 13 witness 2: 1 2");
        x.addArc(2, 0, 20, -50);
        x.addArc(1, 3, 20, -50);
        Check.solves("arcs that leave the set", x, "status 2 cost 0 shortfall 13 witness 2: 1 2");
        x.addArc(0, 3, 20, -50);
        x.addArc(3, 0, 20, -50);
        Check.solves("arcs outside the set", x, "status 2 cost 0 shortfall 13 witness 2: 1 2");
        x.addArc(0, 2, 4, 50);
        Check.solves("a parallel arc into the set", x, "status 2 cost 0 shortfall 9 witness 2: 1 2");
    }

    private static void violation() {
        for (int need = 1; need <= 20; need++) {
            for (int cap = 0; cap <= 20; cap++) {
                NetworkSimplex x = supplied(need, -need);
                x.addArc(0, 1, cap, 1);
                Check.solves("need " + need + " and capacity " + cap, x, need > cap
                    ? "status 2 cost 0 shortfall " + (need - cap) + " witness 1: 1" : optimal(need));
            }
        }
    }

    private static void threeOutcomes() {
        int[] seen = new int[4];
        for (int seed = 0; seed < 600; seed++) {
            Numbers numbers = new Numbers(70000 + seed);
            int nodes = numbers.from(2, 8);
            NetworkSimplex x = numbers.network(nodes, numbers.from(0, 4 * nodes), 20, -50, 50);
            numbers.balance(x, nodes, 20);
            if (seed % 3 == 0) {
                x.setSupply(numbers.from(0, nodes - 1), numbers.from(-20, 20));
            }
            Reference reference = new Reference(x);
            boolean balanced = reference.supplySum() == 0;
            boolean feasible = balanced && reference.worstSet()[0] == 0;
            int status = x.solve();
            Check.due("unbalanced, network " + seed, status == NetworkSimplex.STATUS_UNBALANCED, !balanced);
            Check.due("optimal, network " + seed, status == NetworkSimplex.STATUS_OPTIMAL, feasible);
            Check.due("infeasible, network " + seed, status == NetworkSimplex.STATUS_INFEASIBLE,
                balanced && !feasible);
            seen[!balanced ? 3 : feasible ? 1 : 2]++;
        }
        Check.due("enough of each", seen[1] > 50 && seen[2] > 50 && seen[3] > 50, true);
    }

    private static void changesBetweenSolves() {
        NetworkSimplex x = supplied(5, 0, -5);
        Check.solves("no arcs", x, "status 2 cost 0 shortfall 5 witness 1: 2");
        x.addArc(0, 2, 5, 40);
        Check.solves("an arc added", x, optimal(200));
        x.addArc(0, 1, 5, 1);
        x.addArc(1, 2, 3, 1);
        Check.solves("a cheaper way added", x, optimal(3 * 2 + 2 * 40));
        x.setCapacity(2, 4);
        Check.solves("the cheaper way widened", x, optimal(4 * 2 + 40));
        x.setCost(0, -1);
        Check.solves("the dear way made the cheapest", x, optimal(-5));
        x.setCapacity(0, 0);
        Check.solves("and closed", x, "status 2 cost 0 shortfall 1 witness 1: 2");
        x.setSupply(0, 4);
        Check.solves("less given than taken", x, "status 3 cost 0 shortfall 0 witness 0:");
        x.setSupply(2, -4);
        Check.solves("as much given as taken", x, optimal(8));
    }

    /** The same network with node v called n - 1 - v and with its arcs from the last to the first. */
    private static NetworkSimplex turnedRound(NetworkSimplex x) {
        int last = x.getNodeCount() - 1;
        NetworkSimplex y = new NetworkSimplex(last + 1);
        for (int v = 0; v <= last; v++) {
            y.setSupply(last - v, x.getSupply(v));
        }
        for (int k = x.getArcCount() - 1; k >= 0; k--) {
            y.addArc(last - x.getArc(k, NetworkSimplex.FIELD_TAIL), last - x.getArc(k, NetworkSimplex.FIELD_HEAD),
                x.getArc(k, NetworkSimplex.FIELD_CAP), x.getArc(k, NetworkSimplex.FIELD_COST));
        }
        return y;
    }

    private static void namesAndOrderDoNotMatter() {
        for (int seed = 0; seed < 2000; seed++) {
            Numbers numbers = new Numbers(80000 + seed);
            int nodes = numbers.from(2, 24);
            // Few different costs and capacities, so that many flows and many sets are equally good.
            NetworkSimplex x = numbers.network(nodes, numbers.from(0, 96), numbers.from(1, 6), -1, 1);
            numbers.balance(x, nodes, 6);
            NetworkSimplex y = turnedRound(x);
            String what = " of network " + seed + " turned round";
            Check.due("status" + what, y.solve(), x.solve());
            Check.due("cost" + what, y.getTotalCost(), x.getTotalCost());
            Check.due("shortfall" + what, y.getShortfall(), x.getShortfall());
            Check.due("witness size" + what, y.getWitnessSize(), x.getWitnessSize());
            for (int v = 0; v < nodes; v++) {
                Check.due("inWitness(" + v + ")" + what, y.inWitness(nodes - 1 - v), x.inWitness(v));
            }
        }
    }
}
