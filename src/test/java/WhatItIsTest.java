import java.util.List;

/** The section "What it is": RESET, clamping, refused calls, what clears a result, overflow. */
public final class WhatItIsTest {
    public static void main(String[] args) {
        Check.sentence("every successful `addArc`, `setSupply`, `setCapacity` or `setCost` call clears"
            + " the previous result",
            WhatItIsTest::changesClear);
        Check.sentence("even if the stored value stays the same", WhatItIsTest::sameValuesClear);
        Check.sentence("a refused call clears nothing", WhatItIsTest::refusedCallsClearNothing);
        Check.sentence("none depends on how the solution was reached, on which optimal flow was found,"
            + " or on anything carried over from an earlier solve", WhatItIsTest::nothingIsCarriedOver);
        Check.sentence("The arithmetic of all answers never overflows an `int`: the cost",
            WhatItIsTest::costsDoNotOverflow);
        Check.sentence("The arithmetic of all answers never overflows an `int`: the supplies",
            WhatItIsTest::suppliesDoNotOverflow);
        Check.sentence("The arithmetic of all answers never overflows an `int`: the shortfall",
            WhatItIsTest::shortfallsDoNotOverflow);
        Check.sentence("status becomes `STATUS_NONE`, total cost becomes 0, shortfall becomes 0,"
            + " and the witness becomes empty", WhatItIsTest::resetClearsTheWholeResult);
        Check.sentence("RESET does not touch nodes, arcs, supplies, capacities or costs",
            WhatItIsTest::resetKeepsTheNetwork);
        Check.sentence("a value below lo becomes lo", WhatItIsTest::belowBecomesLow);
        Check.sentence("a value above hi becomes hi", WhatItIsTest::aboveBecomesHigh);
        Check.sentence("any other value is kept", WhatItIsTest::withinIsKept);
        Check.sentence("This holds for every `int`, including `Integer.MIN_VALUE` and `Integer.MAX_VALUE`",
            WhatItIsTest::extremesAreClamped);
        Check.end();
    }

    private static void changesClear() {
        for (int change = 0; change < States.CHANGES; change++) {
            for (NetworkSimplex x : States.withTwoArcs()) {
                Check.due("change " + change, States.storeAnother(change, x), true);
                Check.due("getStatus() after change " + change, x.getStatus(), NetworkSimplex.STATUS_NONE);
            }
        }
    }

    private static void sameValuesClear() {
        for (int change = 0; change < States.CHANGES; change++) {
            for (NetworkSimplex x : States.withTwoArcs()) {
                Check.due("change " + change + " to the same", States.storeTheSame(change, x), true);
                Check.due("getStatus() after change " + change + " to the same", x.getStatus(),
                    NetworkSimplex.STATUS_NONE);
            }
        }
    }

    private static void refusedCallsClearNothing() {
        for (NetworkSimplex x : States.all()) {
            String before = Check.result(x);
            for (int change = 0; change < States.CHANGES; change++) {
                Check.due("refused change " + change, States.tryRefused(change, x), false);
                Check.due("result after refused change " + change, Check.result(x), before);
            }
        }
    }

    private static void nothingIsCarriedOver() {
        for (NetworkSimplex x : States.all()) {
            x.solve();
            x.setSupply(0, -3);
            x.setSupply(1, 3);
            x.solve();
            x.setSupply(0, 2);
            x.setSupply(1, -2);
            Check.solvesLikeNew("after earlier solves", x);
        }
    }

    private static NetworkSimplex ringOfCost(int cost) {
        NetworkSimplex x = new NetworkSimplex(24);
        for (int k = 0; k < 96; k++) {
            x.addArc(k % 24, (k + 1) % 24, Integer.MAX_VALUE, cost);
        }
        return x;
    }

    private static void costsDoNotOverflow() {
        NetworkSimplex least = ringOfCost(Integer.MIN_VALUE);
        Check.due("solve()", least.solve(), NetworkSimplex.STATUS_OPTIMAL);
        Check.due("the least cost of all", least.getTotalCost(), -96 * 20 * 50);
        NetworkSimplex most = Networks.dearest(Integer.MAX_VALUE, Integer.MAX_VALUE);
        Check.due("solve()", most.solve(), NetworkSimplex.STATUS_OPTIMAL);
        Check.due("the greatest cost of all", most.getTotalCost(), 96 * 20 * 50);
    }

    private static NetworkSimplex supplied(int nodes, int first, int others) {
        NetworkSimplex x = new NetworkSimplex(nodes);
        x.setSupply(0, first);
        for (int v = 1; v < nodes; v++) {
            x.setSupply(v, others);
        }
        return x;
    }

    /** As given, the amounts sum to 0 in an int that wraps around; as stored, they do not. */
    private static void suppliesDoNotOverflow() {
        NetworkSimplex two = supplied(2, Integer.MIN_VALUE, Integer.MIN_VALUE);
        Check.due("solve() with two least supplies", two.solve(), NetworkSimplex.STATUS_UNBALANCED);
        NetworkSimplex four = supplied(4, 1 << 30, 1 << 30);
        Check.due("solve() with four great supplies", four.solve(), NetworkSimplex.STATUS_UNBALANCED);
        NetworkSimplex three = supplied(3, 2, Integer.MAX_VALUE);
        Check.due("solve() with two greatest supplies and 2", three.solve(), NetworkSimplex.STATUS_UNBALANCED);
        NetworkSimplex all = supplied(24, Integer.MAX_VALUE, Integer.MAX_VALUE);
        Check.due("solve() with all supplies greatest", all.solve(), NetworkSimplex.STATUS_UNBALANCED);
        NetworkSimplex none = supplied(24, Integer.MIN_VALUE, Integer.MIN_VALUE);
        Check.due("solve() with all supplies least", none.solve(), NetworkSimplex.STATUS_UNBALANCED);
    }

    private static void shortfallsDoNotOverflow() {
        NetworkSimplex x = Networks.halves(Integer.MAX_VALUE, Integer.MIN_VALUE);
        Check.due("solve()", x.solve(), NetworkSimplex.STATUS_INFEASIBLE);
        Check.due("the greatest shortfall of all", x.getShortfall(), 12 * 20);
        NetworkSimplex y = new NetworkSimplex(2);
        for (int k = 0; k < 96; k++) {
            y.addArc(0, 1, Integer.MAX_VALUE, Integer.MAX_VALUE);
        }
        y.setSupply(0, -1);
        y.setSupply(1, 1);
        y.solve();
        Check.due("the greatest capacity into the other set", Check.result(y),
            "status 2 cost 0 shortfall 1 witness 1: 0");
        y.setSupply(0, 1);
        y.setSupply(1, -1);
        y.solve();
        Check.due("the greatest capacity into the set", Check.result(y), "status 1 cost 50 shortfall 0 witness 0:");
    }

    private static void resetClearsTheWholeResult() {
        for (int change = 0; change < States.CHANGES; change++) {
            for (NetworkSimplex x : States.withTwoArcs()) {
                States.storeTheSame(change, x);
                Check.due("result after change " + change, Check.result(x), Check.NO_RESULT);
            }
        }
    }

    private static void resetKeepsTheNetwork() {
        for (int change = 1; change < States.CHANGES; change++) {
            for (NetworkSimplex x : States.all()) {
                String before = Check.network(x);
                States.storeTheSame(change, x);
                Check.due("network after change " + change, Check.network(x), before);
            }
        }
    }

    /** Stores a value in each of the six clamped places; the answers are what was kept of it. */
    private static List<Integer> kept(int value) {
        NetworkSimplex x = new NetworkSimplex(value);
        x.addArc(0, 1, value, value);
        x.addArc(1, 0, 7, 7);
        x.setSupply(1, value);
        x.setCapacity(1, value);
        x.setCost(1, value);
        return List.of(x.getNodeCount(), x.getArc(0, NetworkSimplex.FIELD_CAP), x.getArc(0, NetworkSimplex.FIELD_COST),
            x.getSupply(1), x.getArc(1, NetworkSimplex.FIELD_CAP), x.getArc(1, NetworkSimplex.FIELD_COST));
    }

    private static final int[] LOW = {2, 0, -50, -20, 0, -50};
    private static final int[] HIGH = {24, 20, 50, 20, 20, 50};

    private static void belowBecomesLow() {
        for (int value : Edges.all()) {
            List<Integer> kept = kept(value);
            for (int place = 0; place < LOW.length; place++) {
                if (value < LOW[place]) {
                    Check.due("place " + place + " given " + value, kept.get(place), LOW[place]);
                }
            }
        }
    }

    private static void aboveBecomesHigh() {
        for (int value : Edges.all()) {
            List<Integer> kept = kept(value);
            for (int place = 0; place < HIGH.length; place++) {
                if (value > HIGH[place]) {
                    Check.due("place " + place + " given " + value, kept.get(place), HIGH[place]);
                }
            }
        }
    }

    private static void withinIsKept() {
        for (int place = 0; place < LOW.length; place++) {
            for (int value = LOW[place]; value <= HIGH[place]; value++) {
                Check.due("place " + place + " given " + value, kept(value).get(place), value);
            }
        }
    }

    private static void extremesAreClamped() {
        Check.due("Integer.MIN_VALUE", kept(Integer.MIN_VALUE).toString(), "[2, 0, -50, -20, 0, -50]");
        Check.due("Integer.MIN_VALUE + 1", kept(Integer.MIN_VALUE + 1).toString(), "[2, 0, -50, -20, 0, -50]");
        Check.due("Integer.MAX_VALUE - 1", kept(Integer.MAX_VALUE - 1).toString(), "[24, 20, 50, 20, 20, 50]");
        Check.due("Integer.MAX_VALUE", kept(Integer.MAX_VALUE).toString(), "[24, 20, 50, 20, 20, 50]");
    }
}
