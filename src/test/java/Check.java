/** Counts answers that are not as due, and views the whole of an object's answers. */
final class Check {
    static final int[] EXTREMES = {
        Integer.MIN_VALUE, Integer.MIN_VALUE + 1, -1000, -1, Integer.MAX_VALUE - 1, Integer.MAX_VALUE
    };

    private static int wrong = 0;

    private Check() {
    }

    static void due(String call, long got, long want) {
        if (got != want) {
            tell(call + " answered " + got + ", due is " + want);
        }
    }

    static void due(String call, boolean got, boolean want) {
        if (got != want) {
            tell(call + " answered " + got + ", due is " + want);
        }
    }

    static void due(String call, String got, String want) {
        if (!got.equals(want)) {
            tell(call + " gave\n  " + got + "\n  due is\n  " + want);
        }
    }

    private static void tell(String fault) {
        wrong++;
        // A broken promise can break thousands of answers; the first ones tell enough.
        if (wrong <= 50) {
            System.out.println(fault);
        }
    }

    static void end() {
        System.out.println(wrong == 0 ? "all answers are as due" : wrong + " answers are not as due");
        if (wrong != 0) {
            System.exit(1);
        }
    }

    /** Nodes, supplies and arcs as the getters tell them. */
    static String network(NetworkSimplex x) {
        StringBuilder text = new StringBuilder("nodes " + x.getNodeCount() + " supplies");
        for (int v = -1; v <= x.getNodeCount(); v++) {
            text.append(' ').append(x.getSupply(v));
        }
        text.append(" arcs ").append(x.getArcCount());
        for (int k = -1; k <= x.getArcCount(); k++) {
            text.append(" |");
            for (int field = -1; field <= 4; field++) {
                text.append(' ').append(x.getArc(k, field));
            }
        }
        return text.toString();
    }

    /** Status, cost, shortfall and witness as the getters tell them. */
    static String result(NetworkSimplex x) {
        StringBuilder text = new StringBuilder("status " + x.getStatus() + " cost " + x.getTotalCost()
            + " shortfall " + x.getShortfall() + " witness " + x.getWitnessSize() + ":");
        for (int v = -2; v <= NetworkSimplex.MAX_NODES + 1; v++) {
            if (x.inWitness(v)) {
                text.append(' ').append(v);
            }
        }
        return text.toString();
    }

    static String all(NetworkSimplex x) {
        return result(x) + " " + network(x);
    }

    static final String NO_RESULT = "status 0 cost 0 shortfall 0 witness 0:";

    /** Three nodes, two arcs, optimal at cost 4 * 3 + 4 * -1 = 8. */
    static NetworkSimplex optimal() {
        NetworkSimplex x = new NetworkSimplex(3);
        x.addArc(0, 1, 6, 3);
        x.addArc(1, 2, 5, -1);
        x.setSupply(0, 4);
        x.setSupply(2, -4);
        x.solve();
        due("optimal()", result(x), "status 1 cost 8 shortfall 0 witness 0:");
        return x;
    }

    /** The same arcs asked for 7: the arc into node 2 lacks 2. */
    static NetworkSimplex infeasible() {
        NetworkSimplex x = optimal();
        x.setSupply(0, 7);
        x.setSupply(2, -7);
        x.solve();
        due("infeasible()", result(x), "status 2 cost 0 shortfall 2 witness 1: 2");
        return x;
    }

    static NetworkSimplex unbalanced() {
        NetworkSimplex x = optimal();
        x.setSupply(1, 1);
        x.solve();
        due("unbalanced()", result(x), "status 3 cost 0 shortfall 0 witness 0:");
        return x;
    }

    /** An object of every status. */
    static NetworkSimplex[] ofEachStatus() {
        NetworkSimplex none = optimal();
        none.setSupply(1, 0);
        return new NetworkSimplex[] {none, optimal(), infeasible(), unbalanced()};
    }
}
