/** Promise 6: solve's outcomes on networks of many shapes, against the reference. */
public final class Promise06ReferenceTest {
    public static void main(String[] args) {
        smallAgainstAllFlows();
        mediumAgainstAllSets();
        largeAgainstAllSets();
        largeAgainstCycles();
        historyDoesNotMatter();
        Check.end();
    }

    private static void smallAgainstAllFlows() {
        int optimal = 0;
        int infeasible = 0;
        for (int seed = 0; seed < 3000; seed++) {
            Numbers numbers = new Numbers(seed);
            int nodes = numbers.from(2, 5);
            NetworkSimplex x = numbers.network(nodes, numbers.from(0, 6), 3, -6, 6);
            numbers.balance(x, numbers.from(0, 3), 2);
            x.solve();
            Integer least = new Reference(x).bruteCost();
            String what = "small network " + seed + ": ";
            Check.due(what + "status", x.getStatus(),
                least == null ? NetworkSimplex.STATUS_INFEASIBLE : NetworkSimplex.STATUS_OPTIMAL);
            Check.due(what + "cost", x.getTotalCost(), least == null ? 0 : least);
            String want = new Reference(x).result();
            Check.solves(what, x, want);
            if (least == null) {
                infeasible++;
            } else {
                optimal++;
            }
        }
        enough("small", optimal, infeasible);
    }

    private static void mediumAgainstAllSets() {
        int optimal = 0;
        int infeasible = 0;
        for (int seed = 0; seed < 4000; seed++) {
            Numbers numbers = new Numbers(10000 + seed);
            int nodes = numbers.from(3, 10);
            NetworkSimplex x = numbers.network(nodes, numbers.from(nodes, 5 * nodes), numbers.from(1, 20), -50, 50);
            numbers.balance(x, numbers.from(0, nodes), 20);
            Check.solves("medium network " + seed, x, new Reference(x).result());
            if (x.getStatus() == NetworkSimplex.STATUS_OPTIMAL) {
                optimal++;
            } else {
                infeasible++;
            }
        }
        enough("medium", optimal, infeasible);
    }

    private static void largeAgainstAllSets() {
        for (int seed = 0; seed < 4; seed++) {
            Numbers numbers = new Numbers(20000 + seed);
            NetworkSimplex x = numbers.network(24, 96, 20, -50, 50);
            numbers.balance(x, 24 + 60 * (seed % 2), 20);
            Check.solves("large network " + seed, x, new Reference(x).result());
        }
    }

    private static void largeAgainstCycles() {
        int optimal = 0;
        int infeasible = 0;
        for (int seed = 0; seed < 400; seed++) {
            Numbers numbers = new Numbers(30000 + seed);
            NetworkSimplex x = numbers.network(24, 96, 20, -50, 50);
            numbers.balance(x, 12, 12);
            x.solve();
            Reference reference = new Reference(x);
            if (x.getStatus() == NetworkSimplex.STATUS_OPTIMAL) {
                optimal++;
                Check.solves("large network " + seed, x,
                    "status 1 cost " + reference.cycleCost() + " shortfall 0 witness 0:");
            } else {
                infeasible++;
                int set = 0;
                for (int v = 0; v < 24; v++) {
                    set |= x.inWitness(v) ? 1 << v : 0;
                }
                Check.due("violation of the witness", reference.violation(set), x.getShortfall());
            }
        }
        enough("large", optimal, infeasible);
    }

    private static void enough(String which, int optimal, int infeasible) {
        Check.due("enough " + which + " networks of both kinds: " + optimal + ", " + infeasible,
            optimal > 50 && infeasible > 50, true);
    }

    /** One object is changed and solved time and again; a new one of the same network must agree. */
    private static void historyDoesNotMatter() {
        Numbers numbers = new Numbers(77);
        NetworkSimplex x = numbers.network(7, 18, 12, -20, 30);
        for (int step = 0; step < 3000; step++) {
            change(numbers, x);
            if (step % 3 == 0) {
                x.solve();
                NetworkSimplex fresh = Check.copy(x);
                Check.due("unsolved copy " + step, Check.result(fresh), Check.NO_RESULT);
                fresh.solve();
                Check.due("copy " + step, Check.all(fresh), Check.all(x));
                Check.due("reference " + step, Check.result(x), new Reference(x).result());
            }
        }
    }

    private static void change(Numbers numbers, NetworkSimplex x) {
        switch (numbers.from(0, 4)) {
            case 0:
                x.setCapacity(numbers.from(-1, x.getArcCount()), numbers.from(-3, 23));
                break;
            case 1:
                x.setCost(numbers.from(-1, x.getArcCount()), numbers.from(-60, 60));
                break;
            case 2:
                x.addArc(numbers.from(-1, 7), numbers.from(-1, 7), numbers.from(0, 5), numbers.from(-50, 50));
                break;
            default:
                rebalance(numbers, x);
                break;
        }
    }

    private static void rebalance(Numbers numbers, NetworkSimplex x) {
        for (int v = 0; v < x.getNodeCount(); v++) {
            x.setSupply(v, 0);
        }
        numbers.balance(x, numbers.from(0, 8), 20);
        if (numbers.from(0, 9) == 0) {
            x.setSupply(0, x.getSupply(0) + 1);
        }
    }
}
