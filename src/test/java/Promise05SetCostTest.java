/** Promise 5: setCost's refusals, clamp and RESET. */
public final class Promise05SetCostTest {
    public static void main(String[] args) {
        Check.sentence("`setCost(arc, cost)` is refused when `arc < 0`", Promise05SetCostTest::arcTooSmall);
        Check.sentence("or `arc >= getArcCount()`", Promise05SetCostTest::arcTooLarge);
        Check.sentence("it answers false and changes nothing (the result is not RESET)",
            Promise05SetCostTest::refusalsLeaveNothingBehind);
        Check.sentence("Otherwise ... true is answered: the first and the last arc",
            Promise05SetCostTest::everyArcIsTaken);
        Check.sentence("`cost` is clamped into [-50, 50] and stored as c_arc: too small",
            Promise05SetCostTest::costTooSmall);
        Check.sentence("`cost` is clamped into [-50, 50] and stored as c_arc: too large",
            Promise05SetCostTest::costTooLarge);
        Check.sentence("`cost` is clamped into [-50, 50] and stored as c_arc: within",
            Promise05SetCostTest::costWithin);
        Check.sentence("the result is RESET", Promise05SetCostTest::anotherValueResets);
        Check.sentence("The RESET happens even if the stored value is unchanged",
            Promise05SetCostTest::sameValueResets);
        Check.sentence("A successful call changes only that arc's cost (and the result)",
            Promise05SetCostTest::changesOneCost);
        Check.sentence("The arc's tail, head and capacity, all other arcs, the arc count, the supplies"
            + " and the node count stay as they were", Promise05SetCostTest::keepsTheRest);
        Check.end();
    }

    private static void refused(NetworkSimplex x, int arc, int cost) {
        String before = Check.all(x);
        String call = "setCost(" + arc + ", " + cost + ") of " + x.getArcCount() + " arcs";
        Check.due(call, x.setCost(arc, cost), false);
        Check.due("after " + call, Check.all(x), before);
    }

    private static void arcTooSmall() {
        for (NetworkSimplex x : States.all()) {
            for (int arc : Edges.below(0)) {
                refused(x, arc, 9);
            }
        }
    }

    private static void arcTooLarge() {
        for (NetworkSimplex x : States.all()) {
            for (int arc : Edges.above(x.getArcCount() - 1)) {
                refused(x, arc, 9);
            }
        }
    }

    /** An arc added later must not find what a refused call gave for its number. */
    private static void refusalsLeaveNothingBehind() {
        for (NetworkSimplex x : States.all()) {
            for (int arc : Edges.outside(x.getArcCount())) {
                x.setCost(arc, -9);
            }
            x.addArc(0, 1, 1, 1);
            Check.solvesLikeNew("after refused costs", x);
        }
    }

    private static void everyArcIsTaken() {
        NetworkSimplex x = new NetworkSimplex(2);
        for (int count = 1; count <= 96; count++) {
            x.addArc(0, 1, 3, 3);
            for (int arc : new int[] {0, count / 2, count - 1}) {
                Check.due("setCost(" + arc + ", -4) of " + count + " arcs", x.setCost(arc, -4), true);
                Check.due("cost of " + arc, x.getArc(arc, NetworkSimplex.FIELD_COST), -4);
            }
        }
    }

    private static void stores(NetworkSimplex x, int arc, int cost, int want) {
        Check.due("setCost(" + arc + ", " + cost + ")", x.setCost(arc, cost), true);
        Check.due("cost of " + arc + " given " + cost, x.getArc(arc, NetworkSimplex.FIELD_COST), want);
    }

    private static void costTooSmall() {
        NetworkSimplex x = States.ring(24, 5);
        for (int arc = 0; arc < 96; arc++) {
            stores(x, arc, -51, -50);
            for (int cost : Edges.below(-50)) {
                x.setCost(arc, 10);
                stores(x, arc, cost, -50);
            }
            x.setCost(arc, 10);
            stores(x, arc, Integer.MIN_VALUE, -50);
        }
    }

    private static void costTooLarge() {
        NetworkSimplex x = States.ring(24, 5);
        for (int arc = 0; arc < 96; arc++) {
            stores(x, arc, 51, 50);
            for (int cost : Edges.above(50)) {
                x.setCost(arc, 10);
                stores(x, arc, cost, 50);
            }
            x.setCost(arc, 10);
            stores(x, arc, Integer.MAX_VALUE, 50);
        }
    }

    private static void costWithin() {
        NetworkSimplex x = States.ring(24, 5);
        for (int arc = 0; arc < 96; arc++) {
            for (int cost = -50; cost <= 50; cost++) {
                stores(x, arc, cost, cost);
            }
        }
    }

    private static void anotherValueResets() {
        for (NetworkSimplex x : States.all()) {
            int arc = x.getArcCount() - 1;
            if (arc >= 0) {
                Check.due("setCost to another", x.setCost(arc, x.getArc(arc, NetworkSimplex.FIELD_COST) + 1), true);
                Check.due("result after another cost", Check.result(x), Check.NO_RESULT);
            }
        }
    }

    private static void sameValueResets() {
        for (NetworkSimplex x : States.all()) {
            int arc = x.getArcCount() - 1;
            if (arc >= 0) {
                String before = Check.network(x);
                Check.due("setCost to the same", x.setCost(arc, x.getArc(arc, NetworkSimplex.FIELD_COST)), true);
                Check.due("after the same cost", Check.all(x), Check.NO_RESULT + " " + before);
            }
        }
        NetworkSimplex y = new NetworkSimplex(2);
        y.addArc(0, 1, 20, 50);
        y.addArc(0, 1, 20, -50);
        y.solve();
        y.setCost(0, 51);
        Check.due("after 51 is clamped to the same 50", Check.result(y), Check.NO_RESULT);
        y.solve();
        y.setCost(1, Integer.MIN_VALUE);
        Check.due("after the least is clamped to the same -50", Check.result(y), Check.NO_RESULT);
    }

    private static void changesOneCost() {
        NetworkSimplex x = States.optimal();
        x.setCost(0, -30);
        Check.due("after setCost(0, -30)", Check.all(x), Check.NO_RESULT + " nodes 3 supplies 0 4 0 -4 0 arcs 2"
            + " | 0 0 0 0 0 0 | 0 0 1 6 -30 0 | 0 1 2 5 -1 0 | 0 0 0 0 0 0");
        x.solve();
        Check.due("with another cost", Check.result(x), "status 1 cost -124 shortfall 0 witness 0:");
        x.setCost(0, 3);
        x.solve();
        Check.due("with the old cost", Check.result(x), "status 1 cost 8 shortfall 0 witness 0:");
    }

    private static void keepsTheRest() {
        NetworkSimplex x = States.ring(24, 5);
        x.setSupply(3, 11);
        String supplies = Check.supplies(x);
        for (int arc = 0; arc < 96; arc++) {
            int[][] want = Check.arcs(x);
            want[arc][NetworkSimplex.FIELD_COST] = arc - 48;
            x.setCost(arc, arc - 48);
            Check.due("arcs after cost " + arc, Check.arcs(x), want);
            Check.due("nodes and supplies after cost " + arc, Check.supplies(x), supplies);
        }
    }
}
