import java.lang.reflect.Constructor;
import java.lang.reflect.Field;
import java.lang.reflect.Method;
import java.lang.reflect.Modifier;
import java.util.TreeSet;

/** The public face: the constants, the constructor and the methods of the document, and nothing else. */
public final class FaceTest {
    private static final String METHODS = "drummer2 told2 as2 turns2 set3 miss1 deal1 seed1 order1 hush0 beats1 behind3"
            + " soon0 all0 spread1 toWhom1 mend2 far2 reach2 edge1 miscounted3 fine0 feed3 trim1 text0 textTold2 why1"
            + " sheet3 mark3 pour1 reads2 copy5 lay3 ask2 item2 rest2 tell1 check1 keep0 back0 count1";
    private static final String CONSTANTS = "BAD-1000000001 NO-1000000002 FULL-1000000003 NONE-1000000005"
            + " NOTHING-1000000011 KIND-1000000012 INDEX-1000000013 SIZE-1000000014";

    public static void main(String[] args) throws Exception {
        int face = Modifier.PUBLIC | Modifier.FINAL;
        Due.due("the class is public and final", (OneStroke.class.getModifiers() & face) == face);
        Due.due("it has the methods of the document: " + methods(), methods().equals(wanted(METHODS)));
        Due.due("it has the constants of the document: " + constants(), constants().equals(wanted(CONSTANTS)));
        Constructor<?>[] constructors = OneStroke.class.getDeclaredConstructors();
        Due.due("it has one constructor", constructors.length, 1);
        Due.due("that is public and takes nothing",
                Modifier.isPublic(constructors[0].getModifiers()) && constructors[0].getParameterCount() == 0);
        Due.end("FaceTest");
    }

    private static TreeSet<String> wanted(String names) {
        return new TreeSet<>(java.util.Arrays.asList(names.split(" ")));
    }

    private static TreeSet<String> methods() {
        TreeSet<String> found = new TreeSet<>();
        for (Method one : OneStroke.class.getDeclaredMethods()) {
            if (Modifier.isPrivate(one.getModifiers()) || one.isSynthetic()) {
                continue;
            }
            boolean plain = one.getModifiers() == Modifier.PUBLIC && one.getReturnType() == int.class;
            for (Class<?> type : one.getParameterTypes()) {
                plain &= type == int.class;
            }
            found.add(one.getName() + one.getParameterCount() + (plain ? "" : " in another form"));
        }
        return found;
    }

    private static TreeSet<String> constants() throws Exception {
        TreeSet<String> found = new TreeSet<>();
        for (Field one : OneStroke.class.getDeclaredFields()) {
            if (!Modifier.isPrivate(one.getModifiers()) && !one.isSynthetic()) {
                boolean plain = Modifier.isPublic(one.getModifiers()) && Modifier.isStatic(one.getModifiers())
                        && Modifier.isFinal(one.getModifiers()) && one.getType() == int.class;
                found.add(one.getName() + (plain ? one.getInt(null) : " in another form"));
            }
        }
        return found;
    }
}
