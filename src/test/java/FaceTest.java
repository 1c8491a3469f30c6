import java.lang.reflect.Constructor;
import java.lang.reflect.Field;
import java.lang.reflect.Method;
import java.lang.reflect.Modifier;
import java.util.TreeSet;

/** The class shows the document's face, and nothing else. */
final class FaceTest {
    private static final String FACE = "asked(int) back() book(int,int) borders(int) breaks(int) busiest() can(int,int) "
        + "controls(int,int) count(int) detour() end(int):boolean fits(int) frees(int,int) gates(int,int) hours(int) "
        + "inUse(int) keeps() late() left(int) movement(int,int) net() next(int) office(int,int) owed(int) owes(int) "
        + "pays(int) proves(int) risk(int) road(int,int) routes(int,int) row(int):long sign(int) stamps(int,int) "
        + "starts(int,int,int) states(int) stop(int,int) sums(int,int,int) tightest() trader(int,int) undo() way(int,int) "
        + "when(int,int) worth(int) written(int)";

    private FaceTest() {
    }

    public static void main(String[] args) {
        Check check = new Check("FaceTest");
        TreeSet<String> calls = new TreeSet<>();
        for (Method m : TransitSeals.class.getDeclaredMethods()) {
            if (!Modifier.isPrivate(m.getModifiers())) {
                calls.add(told(m));
            }
        }
        check.due("the calls", String.join(" ", calls), FACE);

        StringBuilder constants = new StringBuilder();
        for (Field f : TransitSeals.class.getDeclaredFields()) {
            if (!Modifier.isPrivate(f.getModifiers())) {
                constants.append(Modifier.toString(f.getModifiers())).append(' ').append(f.getType()).append(' ').append(f.getName());
            }
        }
        check.due("the constants", constants.toString(), "public static final int NONE");
        check.due("NONE", TransitSeals.NONE, -1);

        Constructor<?>[] constructors = TransitSeals.class.getDeclaredConstructors();
        check.due("constructors", constructors.length, 1);
        check.due("public constructors", TransitSeals.class.getConstructors().length, 1);
        check.due("the class", Modifier.toString(TransitSeals.class.getModifiers()), "public final");
        check.close();
    }

    private static String told(Method m) {
        StringBuilder told = new StringBuilder(m.getName()).append('(');
        for (Class<?> type : m.getParameterTypes()) {
            told.append(told.charAt(told.length() - 1) == '(' ? "" : ",").append(type);
        }
        told.append(')');
        return m.getReturnType() == int.class ? told.toString() : told.append(':').append(m.getReturnType()).toString();
    }
}
