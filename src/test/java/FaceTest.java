import java.lang.reflect.Constructor;
import java.lang.reflect.Field;
import java.lang.reflect.Method;
import java.lang.reflect.Modifier;
import java.util.Set;
import java.util.TreeSet;

/** The public face of the document, and nothing else that another class can see. */
public final class FaceTest {
    private static final Set<String> FACE = Set.of(
        "public static final int HullSuite.BAD", "public static final int HullSuite.FULL",
        "public HullSuite()",
        "public int HullSuite.add(int)", "public int HullSuite.remove(int)", "public int HullSuite.points()",
        "public int HullSuite.corners(int)", "public int HullSuite.corner(int,int)",
        "public boolean HullSuite.agree(int,int)", "public int HullSuite.area(int)",
        "public int HullSuite.border()", "public int HullSuite.holds(int)", "public int HullSuite.farthest()",
        "public int HullSuite.extreme(int,int)", "public int HullSuite.triangle()",
        "public int HullSuite.layer(int)", "public int HullSuite.tangent(int)", "public int HullSuite.places()");

    private FaceTest() {
    }

    public static void main(String[] args) {
        Class<?> type = HullSuite.class;
        Due.is("class is public and final", type.getModifiers(), Modifier.PUBLIC | Modifier.FINAL);
        Due.is("class extends Object", type.getSuperclass() == Object.class, true);
        Due.is("interfaces", type.getInterfaces().length, 0);
        Due.is("nested classes", type.getDeclaredClasses().length, 0);
        Set<String> seen = seenFromOutside(type);
        for (String member : FACE) {
            Due.is("there is " + member, seen.remove(member), true);
        }
        Due.is("and no other, but found " + seen, seen.size(), 0);
        Due.finish();
    }

    private static Set<String> seenFromOutside(Class<?> type) {
        Set<String> seen = new TreeSet<>();
        for (Field field : type.getDeclaredFields()) {
            if (!Modifier.isPrivate(field.getModifiers())) {
                seen.add(field.toString());
            }
        }
        for (Constructor<?> constructor : type.getDeclaredConstructors()) {
            if (!Modifier.isPrivate(constructor.getModifiers())) {
                seen.add(constructor.toString());
            }
        }
        for (Method method : type.getDeclaredMethods()) {
            if (!Modifier.isPrivate(method.getModifiers())) {
                seen.add(method.toString());
            }
        }
        return seen;
    }
}
