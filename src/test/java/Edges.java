import java.util.Arrays;
import java.util.TreeSet;

/**
 * The whole numbers near every bound of the document and near every power of two:
 * there a bound is passed, a sign turns, or a narrower type wraps around.
 */
final class Edges {
    private static final int[] ALL = make();

    private Edges() {
    }

    static int[] all() {
        return ALL.clone();
    }

    static int[] below(int bound) {
        return Arrays.stream(ALL).filter(value -> value < bound).toArray();
    }

    static int[] above(int bound) {
        return Arrays.stream(ALL).filter(value -> value > bound).toArray();
    }

    /** Numbers that name none of so many nodes or arcs. */
    static int[] outside(int count) {
        return Arrays.stream(ALL).filter(value -> value < 0 || value >= count).toArray();
    }

    private static int[] make() {
        TreeSet<Integer> values = new TreeSet<>();
        for (int value = -110; value <= 110; value++) {
            values.add(value);
        }
        for (int power = 7; power <= 31; power++) {
            for (int step = -3; step <= 3; step++) {
                int value = (1 << power) + step;
                values.add(value);
                values.add(-value);
            }
        }
        return values.stream().mapToInt(Integer::intValue).toArray();
    }
}
