/** Promise 6: solve's outcomes, by hand and against the reference. */
public final class Promise06SolveTest {
    public static void main(String[] args) {
        emptyNetworks();
        unbalanced();
        witnessByHand();
        circulations();
        extremeCosts();
        smallAgainstAllFlows();
        mediumAgainstAllSets();
        largeAgainstAllSets();
        largeAgainstCycles();
        historyDoesNotMatter();
        Check.end();
    }

    /** Solves, and looks at the answer, the network and a second solve too. */
    private static void solves(String what, NetworkSimplex x, String want) {
        String before = Check.network(x);
        int first = x.solve();
        Check.due(what + ": solve() and getStatus()", first, x.getStatus());
        Check.due(what, Check.result(x), want);
        Check.due(what + ": network after solve()", Check.network(x), before);
        Check.due(what + ": solve() again", x.solve(), first);
        Check.due(what + ", again", Check.result(x), want);
    }

    private static void emptyNetworks() {
        for (int nodes = 2; nodes <= 24; nodes++) {
            NetworkSimplex x = new NetworkSimplex(nodes);
            solves("no arcs, no supplies", x, "status 1 cost 0 shortfall 0 witness 0:");
            x.setSupply(0, 20);
            x.setSupply(nodes - 1, -20);
            solves("no arcs", x, "status 2 cost 0 shortfall 20 witness 1: " + (nodes - 1));
        }
    }

    private static void unbalanced() {
        String want = "status 3 cost 0 shortfall 0 witness 0:";
        for (int node = 0; node < 3; node++) {
            for (int amount : new int[] {-20, -1, 1, 20}) {
                NetworkSimplex x = Check.optimal();
                x.setSupply(node, x.getSupply(node) == amount ? 0 : amount);
                solves("supplies off by one node", x, want);
            }
        }
        NetworkSimplex x = new NetworkSimplex(24);
        for (int v = 0; v < 24; v++) {
            x.setSupply(v, -20);
        }
        solves("all demand", x, want);
        NetworkSimplex y = Check.infeasible();
        y.setSupply(1, -1);
        solves("unbalanced after infeasible", y, want);
    }

    private static void witnessByHand() {
        NetworkSimplex x = new NetworkSimplex(5);
        x.setSupply(0, 10);
        x.setSupply(4, -10);
        x.addArc(0, 1, 20, 0);
        x.addArc(1, 2, 6, 0);
        x.addArc(2, 3, 6, 0);
        x.addArc(3, 4, 6, 0);
        solves("three equal cuts: the smallest set", x, "status 2 cost 0 shortfall 4 witness 1: 4");
        x.setCapacity(3, 7);
        solves("two equal cuts", x, "status 2 cost 0 shortfall 4 witness 2: 3 4");
        x.setCapacity(2, 7);
        solves("one cut", x, "status 2 cost 0 shortfall 4 witness 3: 2 3 4");
        x.setCapacity(1, 0);
        solves("no capacity", x, "status 2 cost 0 shortfall 10 witness 3: 2 3 4");
        x.setSupply(3, 3);
        x.setSupply(0, 7);
        solves("supply inside", x, "status 2 cost 0 shortfall 7 witness 3: 2 3 4");
        x.setCapacity(1, 7);
        solves("just enough", x, "status 2 cost 0 shortfall 3 witness 1: 4");
        x.setCapacity(3, 10);
        solves("enough", x, "status 1 cost 0 shortfall 0 witness 0:");
        twoApartDemands();
    }

    private static void twoApartDemands() {
        NetworkSimplex x = new NetworkSimplex(4);
        x.addArc(0, 1, 3, -50);
        x.addArc(0, 2, 20, 50);
        x.addArc(0, 3, 1, 0);
        x.setSupply(0, 15);
        x.setSupply(1, -5);
        x.setSupply(2, -6);
        x.setSupply(3, -4);
        solves("two demands apart", x, "status 2 cost 0 shortfall 5 witness 2: 1 3");
        x.addArc(2, 1, 20, 0);
        solves("one of them joined to a node with room", x, "status 2 cost 0 shortfall 3 witness 1: 3");
    }

    private static void circulations() {
        NetworkSimplex x = new NetworkSimplex(4);
        x.addArc(0, 1, 5, 2);
        x.addArc(1, 2, 7, -4);
        x.addArc(2, 0, 6, 1);
        solves("a cycle of cost -1", x, "status 1 cost -5 shortfall 0 witness 0:");
        x.setCost(2, 2);
        solves("a cycle of cost 0", x, "status 1 cost 0 shortfall 0 witness 0:");
        x.setCost(2, 3);
        solves("a cycle of cost 1", x, "status 1 cost 0 shortfall 0 witness 0:");
        x.setCost(1, -50);
        solves("a cycle of cost -45", x, "status 1 cost -225 shortfall 0 witness 0:");
        x.setCapacity(2, 0);
        solves("a cycle without capacity", x, "status 1 cost 0 shortfall 0 witness 0:");
        x.setCapacity(2, 1);
        solves("a cycle of capacity 1", x, "status 1 cost -45 shortfall 0 witness 0:");
        x.addArc(0, 3, 20, -50);
        solves("a negative arc that is on no cycle", x, "status 1 cost -45 shortfall 0 witness 0:");
        NetworkSimplex y = new NetworkSimplex(2);
        y.addArc(0, 1, 20, -50);
        y.addArc(1, 0, 20, -50);
        solves("a cycle of two arcs", y, "status 1 cost -2000 shortfall 0 witness 0:");
    }

    private static void extremeCosts() {
        for (int sign = -1; sign <= 1; sign += 2) {
            NetworkSimplex x = new NetworkSimplex(24);
            for (int k = 0; k < 96; k++) {
                x.addArc(k % 24, (k + 1) % 24, Integer.MAX_VALUE, sign * 1000);
            }
            solves("all arcs full or empty", x, "status 1 cost " + (sign < 0 ? -96000 : 0)
                + " shortfall 0 witness 0:");
        }
        NetworkSimplex x = new NetworkSimplex(24);
        for (int v = 0; v < 12; v++) {
            x.setSupply(v, 20);
            x.setSupply(23 - v, -20);
        }
        for (int k = 0; k < 96; k++) {
            x.addArc(k % 23, k % 23 + 1, 20, 50);
        }
        solves("a long line", x, "status 2 cost 0 shortfall 160 witness 12: 12 13 14 15 16 17 18 19 20 21 22 23");
        NetworkSimplex y = new NetworkSimplex(8);
        for (int v = 0; v < 7; v++) {
            for (int i = 0; i < 12; i++) {
                y.addArc(v, v + 1, 20, 50);
            }
        }
        for (int v = 0; v < 4; v++) {
            y.setSupply(v, 20);
            y.setSupply(7 - v, -20);
        }
        solves("a short line", y, "status 1 cost " + 50 * (20 + 40 + 60 + 80 + 60 + 40 + 20)
            + " shortfall 0 witness 0:");
    }

    private static void smallAgainstAllFlows() {
        int optimal = 0;
        int infeasible = 0;
        for (int seed = 0; seed < 3000; seed++) {
            Numbers numbers = new Numbers(seed);
            int nodes = numbers.from(2, 5);
            NetworkSimplex x = numbers.network(nodes, numbers.from(0, 6), 3, -6, 6);
            numbers.balance(x, numbers.from(0, 3), 2);
            x.solve();
            Integer least = new Reference(x).bruteCost();
            String what = "small network " + seed + ": ";
            Check.due(what + "status", x.getStatus(),
                least == null ? NetworkSimplex.STATUS_INFEASIBLE : NetworkSimplex.STATUS_OPTIMAL);
            Check.due(what + "cost", x.getTotalCost(), least == null ? 0 : least);
            String want = new Reference(x).result();
            solves(what, x, want);
            if (least == null) {
                infeasible++;
            } else {
                optimal++;
            }
        }
        enough("small", optimal, infeasible);
    }

    private static void mediumAgainstAllSets() {
        int optimal = 0;
        int infeasible = 0;
        for (int seed = 0; seed < 4000; seed++) {
            Numbers numbers = new Numbers(10000 + seed);
            int nodes = numbers.from(3, 10);
            NetworkSimplex x = numbers.network(nodes, numbers.from(nodes, 5 * nodes), numbers.from(1, 20), -50, 50);
            numbers.balance(x, numbers.from(0, nodes), 20);
            solves("medium network " + seed, x, new Reference(x).result());
            if (x.getStatus() == NetworkSimplex.STATUS_OPTIMAL) {
                optimal++;
            } else {
                infeasible++;
            }
        }
        enough("medium", optimal, infeasible);
    }

    private static void largeAgainstAllSets() {
        for (int seed = 0; seed < 4; seed++) {
            Numbers numbers = new Numbers(20000 + seed);
            NetworkSimplex x = numbers.network(24, 96, 20, -50, 50);
            numbers.balance(x, 24 + 60 * (seed % 2), 20);
            solves("large network " + seed, x, new Reference(x).result());
        }
    }

    private static void largeAgainstCycles() {
        int optimal = 0;
        int infeasible = 0;
        for (int seed = 0; seed < 400; seed++) {
            Numbers numbers = new Numbers(30000 + seed);
            NetworkSimplex x = numbers.network(24, 96, 20, -50, 50);
            numbers.balance(x, 12, 12);
            x.solve();
            Reference reference = new Reference(x);
            if (x.getStatus() == NetworkSimplex.STATUS_OPTIMAL) {
                optimal++;
                solves("large network " + seed, x,
                    "status 1 cost " + reference.cycleCost() + " shortfall 0 witness 0:");
            } else {
                infeasible++;
                int set = 0;
                for (int v = 0; v < 24; v++) {
                    set |= x.inWitness(v) ? 1 << v : 0;
                }
                Check.due("violation of the witness", reference.violation(set), x.getShortfall());
            }
        }
        enough("large", optimal, infeasible);
    }

    private static void enough(String which, int optimal, int infeasible) {
        Check.due("enough " + which + " networks of both kinds: " + optimal + ", " + infeasible,
            optimal > 50 && infeasible > 50, true);
    }

    /** One object is changed and solved time and again; a new one of the same network must agree. */
    private static void historyDoesNotMatter() {
        Numbers numbers = new Numbers(77);
        NetworkSimplex x = numbers.network(7, 18, 12, -20, 30);
        for (int step = 0; step < 3000; step++) {
            change(numbers, x);
            if (step % 3 == 0) {
                x.solve();
                NetworkSimplex fresh = copy(x);
                Check.due("unsolved copy " + step, Check.result(fresh), Check.NO_RESULT);
                fresh.solve();
                Check.due("copy " + step, Check.all(fresh), Check.all(x));
                Check.due("reference " + step, Check.result(x), new Reference(x).result());
            }
        }
    }

    private static void change(Numbers numbers, NetworkSimplex x) {
        switch (numbers.from(0, 4)) {
            case 0:
                x.setCapacity(numbers.from(-1, x.getArcCount()), numbers.from(-3, 23));
                break;
            case 1:
                x.setCost(numbers.from(-1, x.getArcCount()), numbers.from(-60, 60));
                break;
            case 2:
                x.addArc(numbers.from(-1, 7), numbers.from(-1, 7), numbers.from(0, 5), numbers.from(-50, 50));
                break;
            default:
                rebalance(numbers, x);
                break;
        }
    }

    private static void rebalance(Numbers numbers, NetworkSimplex x) {
        for (int v = 0; v < x.getNodeCount(); v++) {
            x.setSupply(v, 0);
        }
        numbers.balance(x, numbers.from(0, 8), 20);
        if (numbers.from(0, 9) == 0) {
            x.setSupply(0, x.getSupply(0) + 1);
        }
    }

    private static NetworkSimplex copy(NetworkSimplex x) {
        NetworkSimplex y = new NetworkSimplex(x.getNodeCount());
        for (int v = 0; v < x.getNodeCount(); v++) {
            y.setSupply(v, x.getSupply(v));
        }
        for (int k = 0; k < x.getArcCount(); k++) {
            y.addArc(x.getArc(k, 0), x.getArc(k, 1), x.getArc(k, 2), x.getArc(k, 3));
        }
        return y;
    }
}
