import java.util.Arrays;

/** Counts answers that are not as due, and views the whole of an object's answers. */
final class Check {
    static final String NO_RESULT = "status 0 cost 0 shortfall 0 witness 0:";

    private static int wrong = 0;
    private static int shown = 0;

    private Check() {
    }

    static void due(String call, long got, long want) {
        if (got != want) {
            tell(call + " answered " + got + ", due is " + want);
        }
    }

    static void due(String call, boolean got, boolean want) {
        if (got != want) {
            tell(call + " answered " + got + ", due is " + want);
        }
    }

    static void due(String call, String got, String want) {
        if (!got.equals(want)) {
            tell(call + " gave\n  " + got + "\n  due is\n  " + want);
        }
    }

    static void due(String call, int[][] got, int[][] want) {
        due(call, Arrays.deepToString(got), Arrays.deepToString(want));
    }

    private static void tell(String fault) {
        wrong++;
        shown++;
        // A broken promise can break thousands of answers; the first ones tell enough.
        if (shown <= 10) {
            System.out.println(fault);
        }
    }

    /** Runs the test of one sentence of the document, and names the sentence if it does not hold. */
    static void sentence(String words, Runnable test) {
        int before = wrong;
        shown = 0;
        try {
            test.run();
        } catch (Throwable thrown) {
            // No call may throw, so one that does is a wrong answer like any other.
            tell("a call threw " + thrown);
        }
        if (wrong != before) {
            System.out.println("NOT HELD: " + words);
        }
    }

    static void end() {
        System.out.println(wrong == 0 ? "all answers are as due" : wrong + " answers are not as due");
        if (wrong != 0) {
            System.exit(1);
        }
    }

    /** Nodes and supplies as the getters tell them. */
    static String supplies(NetworkSimplex x) {
        StringBuilder text = new StringBuilder("nodes " + x.getNodeCount() + " supplies");
        for (int v = -1; v <= x.getNodeCount(); v++) {
            text.append(' ').append(x.getSupply(v));
        }
        return text.toString();
    }

    /** Tail, head, capacity and cost of each arc as the getters tell them. */
    static int[][] arcs(NetworkSimplex x) {
        int[][] arcs = new int[x.getArcCount()][4];
        for (int k = 0; k < arcs.length; k++) {
            for (int field = 0; field < 4; field++) {
                arcs[k][field] = x.getArc(k, field);
            }
        }
        return arcs;
    }

    /** Nodes, supplies and arcs as the getters tell them, with what lies just beyond. */
    static String network(NetworkSimplex x) {
        StringBuilder text = new StringBuilder(supplies(x));
        text.append(" arcs ").append(x.getArcCount());
        for (int k = -1; k <= x.getArcCount(); k++) {
            text.append(" |");
            for (int field = -1; field <= 4; field++) {
                text.append(' ').append(x.getArc(k, field));
            }
        }
        return text.toString();
    }

    /** Status, cost, shortfall and witness as the getters tell them. */
    static String result(NetworkSimplex x) {
        StringBuilder text = new StringBuilder("status " + x.getStatus() + " cost " + x.getTotalCost()
            + " shortfall " + x.getShortfall() + " witness " + x.getWitnessSize() + ":");
        for (int v = -2; v <= NetworkSimplex.MAX_NODES + 1; v++) {
            if (x.inWitness(v)) {
                text.append(' ').append(v);
            }
        }
        return text.toString();
    }

    static String all(NetworkSimplex x) {
        return result(x) + " " + network(x);
    }

    /** A new object of the same network, built from what the getters tell. */
    static NetworkSimplex copy(NetworkSimplex x) {
        NetworkSimplex y = new NetworkSimplex(x.getNodeCount());
        for (int v = 0; v < x.getNodeCount(); v++) {
            y.setSupply(v, x.getSupply(v));
        }
        for (int k = 0; k < x.getArcCount(); k++) {
            y.addArc(x.getArc(k, 0), x.getArc(k, 1), x.getArc(k, 2), x.getArc(k, 3));
        }
        return y;
    }

    /** Solves, and looks at the answer, the network and a second solve too. */
    static void solves(String what, NetworkSimplex x, String want) {
        String before = network(x);
        int first = x.solve();
        due(what + ": solve() and getStatus()", first, x.getStatus());
        due(what, result(x), want);
        due(what + ": network after solve()", network(x), before);
        due(what + ": solve() again", x.solve(), first);
        due(what + ", again", result(x), want);
    }

    /** Solves the object and a new one alike; what no getter tells would part their answers. */
    static void solvesLikeNew(String when, NetworkSimplex x) {
        NetworkSimplex fresh = copy(x);
        due("solve() " + when, x.solve(), fresh.solve());
        due("the answers " + when, all(x), all(fresh));
    }
}
