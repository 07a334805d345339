/** Promise 6: solve's outcomes, sentence by sentence, on networks worked out by hand. */
public final class Promise06SolveTest {
    private static final String UNBALANCED = "status 3 cost 0 shortfall 0 witness 0:";

    public static void main(String[] args) {
        Check.sentence("`solve()` solves the current network", Promise06SolveTest::currentNetwork);
        Check.sentence("It is never refused and answers the new status (the same value `getStatus()` answers"
            + " afterwards)",
            Promise06SolveTest::answersTheStatus);
        Check.sentence("Nodes, arcs, supplies, capacities and costs are not changed by it",
            Promise06SolveTest::keepsTheNetwork);
        Check.sentence("It may be called in any state, including right after construction",
            Promise06SolveTest::rightAfterConstruction);
        Check.sentence("on a network with no arcs", Promise06SolveTest::withoutArcs);
        Check.sentence("and several times in a row", Promise06SolveTest::severalTimes);
        Check.sentence("It may be called in any state: on a full network", Promise06SolveTest::fullNetwork);
        Check.sentence("If the sum of all supplies is not 0: status becomes `STATUS_UNBALANCED`, total cost 0,"
            + " shortfall 0, witness empty", Promise06SolveTest::unbalanced);
        Check.sentence("If the sum of all supplies is not 0: the nearest and the farthest sums",
            Promise06SolveTest::unbalancedByOneOrMost);
        Check.sentence("Otherwise the shortfall becomes the greatest violation(S) over all node sets S",
            Promise06SolveTest::greatestViolation);
        Check.sentence("It is at least 0, since the empty set gives 0", Promise06SolveTest::neverBelowZero);
        Check.sentence("the witness becomes that smallest set", Promise06SolveTest::smallestSet);
        Check.sentence("The sets reaching that greatest value are closed under intersection",
            Promise06SolveTest::intersectionOfSets);
        Check.sentence("If the shortfall is greater than 0: status becomes `STATUS_INFEASIBLE` and total cost 0",
            Promise06SolveTest::infeasibleByOneOrMost);
        Check.sentence("The witness is then nonempty, and need(witness) - capIn(witness), ..., equals the shortfall",
            Promise06SolveTest::witnessReachesTheShortfall);
        Check.sentence("If the shortfall is 0: a feasible flow exists; status becomes `STATUS_OPTIMAL`, ...,"
            + " and the witness is empty", Promise06SolveTest::justEnough);
        Check.sentence("total cost becomes the least cost of any feasible flow", Promise06SolveTest::leastCost);
        Check.sentence("this total cost lies between the sum over all arcs of min(0, c_k) * cap_k",
            Promise06SolveTest::leastOfAllCosts);
        Check.sentence("and the sum over all arcs of max(0, c_k) * cap_k", Promise06SolveTest::greatestOfAllCosts);
        Check.sentence("It can be negative, zero or positive", Promise06SolveTest::signsOfTheCost);
        Check.sentence("with all supplies 0 ... the status is `STATUS_OPTIMAL`", Promise06SolveTest::allSuppliesZero);
        Check.sentence("negative exactly when some directed cycle ... has a negative sum of costs",
            Promise06SolveTest::negativeCycles);
        Check.sentence("(each arc's head is the next arc's tail)", Promise06SolveTest::cyclesAreDirected);
        Check.sentence("whose arcs all have capacity at least 1", Promise06SolveTest::cyclesNeedCapacity);
        Check.sentence("and is 0 otherwise", Promise06SolveTest::otherwiseZero);
        Check.sentence("the same status is answered, and every getter answers the same as after the first solve",
            Promise06SolveTest::sameAgain);
        Check.sentence("never on earlier solves or on the history of changes that led to the current network",
            Promise06SolveTest::historyDoesNotMatter);
        Check.end();
    }

    private static String optimal(int cost) {
        return "status 1 cost " + cost + " shortfall 0 witness 0:";
    }

    /** Each change alone changes what is due, and is not yet in the network that was solved before. */
    private static void currentNetwork() {
        NetworkSimplex x = new NetworkSimplex(2);
        x.addArc(0, 1, 10, 5);
        x.setSupply(0, 8);
        x.setSupply(1, -8);
        Check.solves("at first", x, optimal(40));
        x.addArc(0, 1, 3, 1);
        Check.solves("with another arc", x, optimal(3 + 5 * 5));
        x.setCost(1, 2);
        Check.solves("with another cost", x, optimal(6 + 5 * 5));
        x.setCapacity(0, 4);
        Check.solves("with another capacity", x, "status 2 cost 0 shortfall 1 witness 1: 1");
        x.setSupply(0, 7);
        Check.solves("with another supply", x, UNBALANCED);
        x.setSupply(1, -7);
        Check.solves("with both supplies changed", x, optimal(6 + 4 * 5));
    }

    private static void answersTheStatus() {
        for (NetworkSimplex x : States.all()) {
            int want = x.getStatus();
            int status = x.solve();
            Check.due("getStatus() after solve()", x.getStatus(), status);
            if (want != NetworkSimplex.STATUS_NONE) {
                Check.due("solve()", status, want);
            } else {
                Check.due("solve() of what was unsolved", status, NetworkSimplex.STATUS_OPTIMAL);
            }
        }
    }

    private static void keepsTheNetwork() {
        for (NetworkSimplex x : States.all()) {
            String before = Check.network(x);
            x.solve();
            Check.due("network after solve()", Check.network(x), before);
        }
        NetworkSimplex y = Networks.dearest(20, -50);
        String before = Check.network(y);
        y.solve();
        Check.due("network of 96 full arcs after solve()", Check.network(y), before);
    }

    private static void rightAfterConstruction() {
        for (int nodes : Edges.all()) {
            NetworkSimplex x = new NetworkSimplex(nodes);
            Check.due("solve() of new NetworkSimplex(" + nodes + ")", x.solve(), NetworkSimplex.STATUS_OPTIMAL);
            Check.due("new NetworkSimplex(" + nodes + ") solved", Check.result(x), optimal(0));
        }
    }

    private static void withoutArcs() {
        for (int nodes = 2; nodes <= 24; nodes++) {
            NetworkSimplex x = new NetworkSimplex(nodes);
            x.setSupply(0, 20);
            x.setSupply(nodes - 1, -20);
            Check.solves("no arcs", x, "status 2 cost 0 shortfall 20 witness 1: " + (nodes - 1));
            x.setSupply(0, -1);
            x.setSupply(nodes - 1, 1);
            Check.solves("no arcs, the other way", x, "status 2 cost 0 shortfall 1 witness 1: 0");
            x.setSupply(0, 0);
            Check.solves("no arcs, unbalanced", x, UNBALANCED);
            x.setSupply(nodes - 1, 0);
            Check.solves("no arcs, no supplies", x, optimal(0));
        }
    }

    private static void severalTimes() {
        for (NetworkSimplex x : States.all()) {
            int status = x.solve();
            String before = Check.all(x);
            for (int time = 2; time <= 50; time++) {
                Check.due("solve(), time " + time, x.solve(), status);
                Check.due("after solve(), time " + time, Check.all(x), before);
            }
        }
    }

    private static void fullNetwork() {
        for (NetworkSimplex x : States.full()) {
            Check.solves("a full network", x, new Reference(x).result());
        }
        // Only the last of the 96 arcs can carry anything.
        NetworkSimplex y = new NetworkSimplex(24);
        for (int k = 0; k < 95; k++) {
            y.addArc(0, 23, 0, -50);
        }
        y.addArc(0, 23, 20, 9);
        y.setSupply(0, 20);
        y.setSupply(23, -20);
        Check.solves("the last arc alone", y, optimal(180));
        y.setCapacity(95, 19);
        Check.solves("the last arc lacks one", y, "status 2 cost 0 shortfall 1 witness 1: 23");
    }

    private static void unbalanced() {
        for (int node = 0; node < 3; node++) {
            for (int amount : new int[] {-20, -1, 1, 20}) {
                NetworkSimplex x = States.optimal();
                x.setSupply(node, amount);
                Check.solves("supplies off by node " + node, x, UNBALANCED);
                NetworkSimplex y = States.infeasible();
                y.setSupply(node, amount);
                Check.solves("supplies off by node " + node + " after infeasible", y, UNBALANCED);
            }
        }
        NetworkSimplex z = Networks.cycle(24, 20, -50);
        z.setSupply(23, -1);
        Check.solves("a demand beside a cheap cycle", z, UNBALANCED);
    }

    private static void unbalancedByOneOrMost() {
        for (int nodes = 2; nodes <= 24; nodes++) {
            for (int node = 0; node < nodes; node++) {
                for (int amount : new int[] {-1, 1}) {
                    NetworkSimplex x = new NetworkSimplex(nodes);
                    x.setSupply(node, amount);
                    Check.solves("sum " + amount + " by node " + node, x, UNBALANCED);
                }
            }
        }
        for (int amount : new int[] {Integer.MIN_VALUE, -20, -1, 1, 20, Integer.MAX_VALUE}) {
            Check.solves("all supplies " + amount, Networks.halves(amount, amount), UNBALANCED);
        }
        NetworkSimplex y = Networks.halves(20, -20);
        y.setSupply(23, -19);
        Check.solves("the greatest supplies and sum 1", y, UNBALANCED);
        y.setSupply(23, -20);
        y.setSupply(0, 19);
        Check.solves("the greatest supplies and sum -1", y, UNBALANCED);
    }

    private static void greatestViolation() {
        NetworkSimplex x = new NetworkSimplex(4);
        x.addArc(0, 1, 3, -50);
        x.addArc(0, 2, 20, 50);
        x.addArc(0, 3, 1, 0);
        x.setSupply(0, 15);
        x.setSupply(1, -5);
        x.setSupply(2, -6);
        x.setSupply(3, -4);
        Check.solves("two demands apart", x, "status 2 cost 0 shortfall 5 witness 2: 1 3");
        x.addArc(2, 1, 20, 0);
        Check.solves("one of them joined to a node with room", x, "status 2 cost 0 shortfall 3 witness 1: 3");
        NetworkSimplex y = new NetworkSimplex(24);
        for (int v = 0; v < 12; v++) {
            y.setSupply(v, 20);
            y.setSupply(23 - v, -20);
        }
        for (int k = 0; k < 96; k++) {
            y.addArc(k % 23, k % 23 + 1, 20, 50);
        }
        Check.solves("a long line", y,
            "status 2 cost 0 shortfall 160 witness 12: 12 13 14 15 16 17 18 19 20 21 22 23");
    }

    /** Every node set but the empty and the whole one has capacity to spare. */
    private static void neverBelowZero() {
        for (int nodes = 2; nodes <= 24; nodes++) {
            NetworkSimplex x = Networks.cycle(nodes, 20, 1);
            Check.solves("a cycle of " + nodes + " nodes", x, optimal(0));
            x.setSupply(0, 1);
            x.setSupply(1, -1);
            Check.solves("a cycle of " + nodes + " nodes, one unit", x, optimal(1));
        }
    }

    private static void smallestSet() {
        NetworkSimplex x = new NetworkSimplex(5);
        x.setSupply(0, 10);
        x.setSupply(4, -10);
        x.addArc(0, 1, 20, 0);
        x.addArc(1, 2, 6, 0);
        x.addArc(2, 3, 6, 0);
        x.addArc(3, 4, 6, 0);
        Check.solves("three equal cuts: the smallest set", x, "status 2 cost 0 shortfall 4 witness 1: 4");
        x.setCapacity(3, 7);
        Check.solves("two equal cuts", x, "status 2 cost 0 shortfall 4 witness 2: 3 4");
        x.setCapacity(2, 7);
        Check.solves("one cut", x, "status 2 cost 0 shortfall 4 witness 3: 2 3 4");
        x.setCapacity(1, 0);
        Check.solves("no capacity", x, "status 2 cost 0 shortfall 10 witness 3: 2 3 4");
        x.setSupply(3, 3);
        x.setSupply(0, 7);
        Check.solves("supply inside", x, "status 2 cost 0 shortfall 7 witness 3: 2 3 4");
        x.setCapacity(1, 7);
        Check.solves("just enough", x, "status 2 cost 0 shortfall 3 witness 1: 4");
        x.setCapacity(3, 10);
        Check.solves("enough", x, optimal(0));
    }

    /** The sets {1, 2} and {2, 3} reach the greatest violation too, and neither holds the other. */
    private static void intersectionOfSets() {
        NetworkSimplex x = new NetworkSimplex(4);
        x.addArc(0, 1, 2, -7);
        x.addArc(1, 2, 2, 7);
        x.addArc(0, 3, 2, 7);
        x.addArc(3, 2, 2, -7);
        x.setSupply(0, 5);
        x.setSupply(2, -5);
        Reference reference = new Reference(x);
        Check.due("violation of {1, 2}", reference.violation(0b0110), 1);
        Check.due("violation of {2, 3}", reference.violation(0b1100), 1);
        Check.solves("two ways that end in one node", x, "status 2 cost 0 shortfall 1 witness 1: 2");
        x.setCapacity(1, 3);
        Check.solves("one of the ways wider at its end", x, "status 2 cost 0 shortfall 1 witness 2: 1 2");
        x.setCapacity(3, 3);
        Check.solves("both ways wider at their ends", x, "status 2 cost 0 shortfall 1 witness 3: 1 2 3");
    }

    private static void infeasibleByOneOrMost() {
        for (int nodes = 2; nodes <= 24; nodes++) {
            NetworkSimplex x = Networks.line(nodes, 20, -50);
            x.setSupply(0, 20);
            x.setSupply(nodes - 1, -20);
            x.setCapacity(nodes - 2, 19);
            Check.solves("a line of " + nodes + " that lacks one", x,
                "status 2 cost 0 shortfall 1 witness 1: " + (nodes - 1));
        }
        Check.solves("twelve demands without arcs", Networks.halves(20, -20),
            "status 2 cost 0 shortfall 240 witness 12: 12 13 14 15 16 17 18 19 20 21 22 23");
        NetworkSimplex y = Networks.halves(20, -20);
        for (int k = 0; k < 96; k++) {
            y.addArc(12 + k % 12, (k + k / 12) % 12, 20, -50);
        }
        Check.solves("twelve demands with arcs the wrong way", y,
            "status 2 cost 0 shortfall 240 witness 12: 12 13 14 15 16 17 18 19 20 21 22 23");
    }

    private static void witnessReachesTheShortfall() {
        int infeasible = 0;
        for (int seed = 0; seed < 300; seed++) {
            Numbers numbers = new Numbers(50000 + seed);
            int nodes = numbers.from(2, 24);
            NetworkSimplex x = numbers.network(nodes, numbers.from(0, 96), numbers.from(0, 20), -50, 50);
            numbers.balance(x, 60, 20);
            if (x.solve() == NetworkSimplex.STATUS_INFEASIBLE) {
                infeasible++;
                int set = 0;
                for (int v = 0; v < nodes; v++) {
                    set |= x.inWitness(v) ? 1 << v : 0;
                }
                Check.due("the witness is nonempty", set != 0, true);
                Check.due("need - capIn of the witness", new Reference(x).violation(set), x.getShortfall());
            }
        }
        Check.due("enough infeasible networks: " + infeasible, infeasible > 50, true);
    }

    private static void justEnough() {
        for (int nodes = 2; nodes <= 24; nodes++) {
            NetworkSimplex x = Networks.line(nodes, 20, 1);
            x.setSupply(0, 20);
            x.setSupply(nodes - 1, -20);
            Check.solves("a line of " + nodes + " just wide enough", x, optimal(20 * (nodes - 1)));
            NetworkSimplex y = Networks.lineFromItsEnd(nodes, 20, 1);
            y.setSupply(0, 20);
            y.setSupply(nodes - 1, -20);
            Check.solves("the same line from its end", y, optimal(20 * (nodes - 1)));
        }
    }

    private static void leastCost() {
        NetworkSimplex x = new NetworkSimplex(4);
        x.addArc(0, 1, 4, 1);
        x.addArc(0, 2, 2, 2);
        x.addArc(1, 2, 2, 1);
        x.addArc(1, 3, 3, 3);
        x.addArc(2, 3, 5, 1);
        x.setSupply(0, 4);
        x.setSupply(3, -4);
        Check.solves("three ways of cost 3, 3 and 4", x, optimal(2 * 3 + 2 * 3));
        x.setSupply(0, 6);
        x.setSupply(3, -6);
        Check.solves("all three ways", x, optimal(2 * 3 + 2 * 3 + 2 * 4));
        takesBackAnEarlierPath();
    }

    /** The cheapest way for one unit, 0 1 2 3, must be given up for two units. */
    private static void takesBackAnEarlierPath() {
        NetworkSimplex x = new NetworkSimplex(4);
        x.addArc(0, 1, 1, 1);
        x.addArc(0, 2, 1, 10);
        x.addArc(1, 2, 1, 1);
        x.addArc(1, 3, 1, 10);
        x.addArc(2, 3, 1, 1);
        x.setSupply(0, 1);
        x.setSupply(3, -1);
        Check.solves("one unit", x, optimal(3));
        x.setSupply(0, 2);
        x.setSupply(3, -2);
        Check.solves("two units", x, optimal(22));
    }

    private static void leastOfAllCosts() {
        NetworkSimplex x = new NetworkSimplex(24);
        for (int k = 0; k < 96; k++) {
            x.addArc(k % 24, (k + 1) % 24, 20, -50);
        }
        Check.solves("96 arcs that all pay to be full", x, optimal(-96000));
        Check.solves("96 arcs that all must be full and pay", Networks.dearest(20, -50), optimal(-96000));
        NetworkSimplex y = Networks.line(24, 20, -50);
        y.setSupply(0, 20);
        y.setSupply(23, -20);
        Check.solves("the longest way, paying", y, optimal(-23 * 20 * 50));
        NetworkSimplex z = Networks.lineFromItsEnd(24, 20, -50);
        z.setSupply(0, 20);
        z.setSupply(23, -20);
        Check.solves("the longest way from its end, paying", z, optimal(-23 * 20 * 50));
    }

    private static void greatestOfAllCosts() {
        Check.solves("96 arcs that all must be full", Networks.dearest(20, 50), optimal(96000));
        NetworkSimplex y = Networks.line(24, 20, 50);
        y.setSupply(0, 20);
        y.setSupply(23, -20);
        Check.solves("the longest way", y, optimal(23 * 20 * 50));
        NetworkSimplex z = Networks.lineFromItsEnd(24, 20, 50);
        z.setSupply(0, 20);
        z.setSupply(23, -20);
        Check.solves("the longest way from its end", z, optimal(23 * 20 * 50));
    }

    private static void signsOfTheCost() {
        NetworkSimplex x = new NetworkSimplex(2);
        x.addArc(0, 1, 1, -1);
        x.setSupply(0, 1);
        x.setSupply(1, -1);
        Check.solves("cost -1", x, optimal(-1));
        x.setCost(0, 0);
        Check.solves("cost 0", x, optimal(0));
        x.setCost(0, 1);
        Check.solves("cost 1", x, optimal(1));
        NetworkSimplex y = new NetworkSimplex(3);
        y.addArc(0, 1, 20, -50);
        y.addArc(1, 2, 20, 50);
        y.setSupply(0, 20);
        y.setSupply(2, -20);
        Check.solves("costs that sum to 0", y, optimal(0));
    }

    private static void allSuppliesZero() {
        for (int seed = 0; seed < 200; seed++) {
            Numbers numbers = new Numbers(60000 + seed);
            int nodes = numbers.from(2, 24);
            NetworkSimplex x = numbers.network(nodes, numbers.from(0, 96), 20, -50, 50);
            Check.due("solve() with all supplies 0", x.solve(), NetworkSimplex.STATUS_OPTIMAL);
            Check.due("getShortfall() with all supplies 0", x.getShortfall(), 0);
            Check.due("getWitnessSize() with all supplies 0", x.getWitnessSize(), 0);
        }
    }

    private static void negativeCycles() {
        for (int nodes = 2; nodes <= 24; nodes++) {
            NetworkSimplex x = Networks.cycle(nodes, 1, 0);
            x.setCost(nodes - 1, -1);
            Check.solves("a cycle of " + nodes + " and cost -1", x, optimal(-1));
            NetworkSimplex y = Networks.cycle(nodes, 20, 2);
            y.setCost(0, -2 * (nodes - 1) - 1);
            Check.solves("a cycle of " + nodes + " with one negative arc", y, optimal(-20));
        }
        NetworkSimplex z = new NetworkSimplex(4);
        z.addArc(0, 1, 5, 2);
        z.addArc(1, 2, 7, -4);
        z.addArc(2, 0, 6, 1);
        Check.solves("a cycle of cost -1 and capacity 5", z, optimal(-5));
        z.setCost(1, -50);
        Check.solves("a cycle of cost -47", z, optimal(-235));
        NetworkSimplex two = new NetworkSimplex(2);
        two.addArc(0, 1, 20, -50);
        two.addArc(1, 0, 20, -50);
        Check.solves("a cycle of two arcs", two, optimal(-2000));
    }

    private static void cyclesAreDirected() {
        for (int nodes = 2; nodes <= 24; nodes++) {
            NetworkSimplex x = Networks.line(nodes, 20, -50);
            x.addArc(0, nodes - 1, 20, -50);
            Check.solves("a ring of " + nodes + " with one arc turned", x, optimal(0));
        }
        NetworkSimplex y = new NetworkSimplex(2);
        y.addArc(0, 1, 20, -50);
        y.addArc(0, 1, 20, 50);
        Check.solves("two arcs of one direction", y, optimal(0));
    }

    private static void cyclesNeedCapacity() {
        for (int nodes = 2; nodes <= 24; nodes++) {
            for (int closed = 0; closed < nodes; closed++) {
                NetworkSimplex x = Networks.cycle(nodes, 20, -50);
                x.setCapacity(closed, 0);
                Check.solves("a cycle of " + nodes + " without capacity at " + closed, x, optimal(0));
                x.setCapacity(closed, 1);
                Check.solves("a cycle of " + nodes + " with capacity 1 at " + closed, x, optimal(-50 * nodes));
            }
        }
    }

    private static void otherwiseZero() {
        for (int nodes = 2; nodes <= 24; nodes++) {
            NetworkSimplex x = Networks.cycle(nodes, 20, 0);
            Check.solves("a cycle of " + nodes + " and cost 0", x, optimal(0));
            x.setCost(0, 1);
            Check.solves("a cycle of " + nodes + " and cost 1", x, optimal(0));
            x.setCost(1, -1);
            Check.solves("a cycle of " + nodes + " and cost 1 - 1", x, optimal(0));
            NetworkSimplex y = Networks.line(nodes, 20, -50);
            Check.solves("a line of " + nodes + " without a cycle", y, optimal(0));
        }
    }

    private static void sameAgain() {
        for (NetworkSimplex x : States.all()) {
            int status = x.solve();
            String before = Check.all(x);
            Check.due("solve() again", x.solve(), status);
            Check.due("every getter after solve() again", Check.all(x), before);
        }
        NetworkSimplex y = Networks.dearest(20, 50);
        int status = y.solve();
        String before = Check.all(y);
        Check.due("solve() again of 96 full arcs", y.solve(), status);
        Check.due("every getter after solve() again of 96 full arcs", Check.all(y), before);
    }

    /** The network goes through every outcome and comes back to where it was. */
    private static void historyDoesNotMatter() {
        NetworkSimplex x = Networks.dearest(20, 50);
        Check.solves("at first", x, optimal(96000));
        x.setCapacity(95, 0);
        x.solve();
        Check.due("lacking one arc", x.getShortfall(), 20);
        x.setSupply(23, 1);
        Check.solves("unbalanced", x, UNBALANCED);
        x.setSupply(23, 0);
        x.setCapacity(95, 20);
        for (int k = 0; k < 96; k++) {
            x.setCost(k, -50);
        }
        Check.solves("paying", x, optimal(-96000));
        for (int k = 0; k < 96; k++) {
            x.setCost(k, 50);
        }
        Check.solves("as at first", x, optimal(96000));
        for (NetworkSimplex y : States.all()) {
            Check.solvesLikeNew("in any state", y);
        }
    }
}
