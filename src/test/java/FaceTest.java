import java.lang.reflect.Constructor;
import java.lang.reflect.Field;
import java.lang.reflect.Method;
import java.lang.reflect.Modifier;
import java.util.Set;
import java.util.TreeSet;

/** The public face: just the constants, the constructor and the methods of the document. */
public final class FaceTest {
    public static void main(String[] args) throws ReflectiveOperationException {
        Check check = new Check("The public face");
        check.due("the class", Modifier.toString(RegionMap.class.getModifiers()), "public final");
        check.due("the nested classes", RegionMap.class.getDeclaredClasses().length, 0);
        constants(check);
        constructors(check);
        methods(check);
        check.end();
    }

    private static void constants(Check check) throws ReflectiveOperationException {
        Set<String> got = new TreeSet<>();
        for (Field field : RegionMap.class.getDeclaredFields()) {
            if (!Modifier.isPrivate(field.getModifiers())) {
                got.add(Modifier.toString(field.getModifiers()) + " " + field.getType() + " " + field.getName()
                    + " " + field.get(null));
            }
        }
        Set<String> want = new TreeSet<>();
        String[] named = {"BAD -1", "HOLE -2", "TAKEN -3", "NO_ROOM -4", "FULL -5", "FREE -6"};
        for (String constant : named) {
            want.add("public static final int " + constant);
        }
        check.due("the constants", got.toString(), want.toString());
    }

    private static void constructors(Check check) {
        Constructor<?>[] got = RegionMap.class.getDeclaredConstructors();
        check.due("the number of constructors", got.length, 1);
        check.due("the constructor", got[0].toString(), "public RegionMap(int,int)");
    }

    private static void methods(Check check) {
        Set<String> got = new TreeSet<>();
        for (Method method : RegionMap.class.getDeclaredMethods()) {
            if (!Modifier.isPrivate(method.getModifiers())) {
                got.add(method.toString());
            }
        }
        Set<String> want = new TreeSet<>();
        String[] named = {
            "mapNew(int,int,int,int)", "mapOver(int,int,int,int)", "mapLow(int,int,int,int)",
            "mapHigh(int,int,int,int)", "unmap(int,int)", "protect(int,int,int)", "move(int,int,int)",
            "moveFree(int,int,int)", "protOf(int)", "backingOf(int)", "regionCount()", "regionStart(int)",
            "regionLength(int)", "findLow(int,int)", "findHigh(int,int)", "longestGap()",
        };
        for (String method : named) {
            want.add("public int RegionMap." + method);
        }
        check.due("the methods", got.toString(), want.toString());
    }
}
