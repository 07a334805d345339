import java.lang.reflect.Constructor;
import java.lang.reflect.Field;
import java.lang.reflect.Method;
import java.lang.reflect.Modifier;
import java.util.TreeSet;

/** The section "The public face": these members and no other that is not private. */
public final class PublicFaceTest {
    public static void main(String[] args) throws IllegalAccessException {
        Check.due("class modifiers", Modifier.toString(NetworkSimplex.class.getModifiers()), "public final");
        Check.due("nested classes", NetworkSimplex.class.getDeclaredClasses().length, 0);
        constants();
        constructors();
        methods();
        Check.end();
    }

    private static void constants() throws IllegalAccessException {
        TreeSet<String> names = new TreeSet<>();
        for (Field field : NetworkSimplex.class.getDeclaredFields()) {
            if (!Modifier.isPrivate(field.getModifiers())) {
                names.add(Modifier.toString(field.getModifiers()) + " " + field.getType() + " "
                    + field.getName() + " = " + field.get(null));
            }
        }
        TreeSet<String> want = new TreeSet<>();
        String[] constants = {
            "MIN_NODES = 2", "MAX_NODES = 24", "MAX_ARCS = 96", "MIN_CAP = 0", "MAX_CAP = 20",
            "MIN_COST = -50", "MAX_COST = 50", "MIN_SUPPLY = -20", "MAX_SUPPLY = 20",
            "STATUS_NONE = 0", "STATUS_OPTIMAL = 1", "STATUS_INFEASIBLE = 2", "STATUS_UNBALANCED = 3",
            "FIELD_TAIL = 0", "FIELD_HEAD = 1", "FIELD_CAP = 2", "FIELD_COST = 3"
        };
        for (String constant : constants) {
            want.add("public static final int " + constant);
        }
        Check.due("constants", names.toString(), want.toString());
    }

    private static void constructors() {
        TreeSet<String> names = new TreeSet<>();
        for (Constructor<?> constructor : NetworkSimplex.class.getDeclaredConstructors()) {
            names.add(constructor.toString());
        }
        Check.due("constructors", names.toString(), "[public NetworkSimplex(int)]");
    }

    private static void methods() {
        TreeSet<String> names = new TreeSet<>();
        for (Method method : NetworkSimplex.class.getDeclaredMethods()) {
            if (!Modifier.isPrivate(method.getModifiers())) {
                names.add(method.toString().replace("NetworkSimplex.", ""));
            }
        }
        TreeSet<String> want = new TreeSet<>();
        String[] methods = {
            "int addArc(int,int,int,int)", "boolean setSupply(int,int)", "boolean setCapacity(int,int)",
            "boolean setCost(int,int)", "int solve()", "int getStatus()", "int getTotalCost()",
            "int getShortfall()", "boolean inWitness(int)", "int getWitnessSize()", "int getNodeCount()",
            "int getArcCount()", "int getSupply(int)", "int getArc(int,int)"
        };
        for (String method : methods) {
            want.add("public " + method);
        }
        Check.due("methods", names.toString(), want.toString());
    }
}
