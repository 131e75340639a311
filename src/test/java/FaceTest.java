import java.lang.reflect.Constructor;
import java.lang.reflect.Method;
import java.lang.reflect.Modifier;
import java.util.Arrays;
import java.util.Map;
import java.util.TreeMap;

/** The public face: what the class shows is what the document lists, and no more. */
public final class FaceTest {
    private static final String[] FACE = {
        "int set(int, int)", "int fault(int)", "int law(int)", "int wind(int)", "int boat(int, int, boolean, int)",
        "int of(int, int)", "int badAir(int)", "int go(int)", "int turn(int)", "int anew()", "int place(int)",
        "int ends(int)", "int tacks(int, boolean, int)", "int best(int, boolean, int)", "int sides()",
        "int lead(int, int, int, int, int)", "int safe(int, int, int, int)", "int answer(int, int, int, int)",
        "int cover(int, int, int, int)", "int which(int)", "int read(int, int)", "int worth(int, int)", "int pairs()",
        "int image()", "int restore()", "int count(int)", "int keep(int, int, int)", "int row(int, int, int)",
        "int put(int, int, int)", "long element(int, int)", "int copy(int, int, int, int, int)", "int skill(int)",
        "int toss(int)"};

    public static void main(String[] args) {
        Due.sentence("the public face: the class", FaceTest::theClass);
        Due.sentence("the public face: its methods", FaceTest::methods);
        Due.sentence("the public face: what element throws", FaceTest::exceptions);
        Due.end();
    }

    private static void theClass() {
        int modifiers = WindBay.class.getModifiers();
        Due.is("public", Modifier.isPublic(modifiers) ? 1 : 0, 1);
        Due.is("final", Modifier.isFinal(modifiers) ? 1 : 0, 1);
        Due.is("it extends nothing", WindBay.class.getSuperclass() == Object.class ? 1 : 0, 1);
        Constructor<?>[] constructors = WindBay.class.getDeclaredConstructors();
        Due.is("constructors", constructors.length, 1);
        Due.is("of nothing", constructors[0].getParameterCount(), 0);
        Due.is("public", Modifier.isPublic(constructors[0].getModifiers()) ? 1 : 0, 1);
        Due.is("public fields", WindBay.class.getFields().length, 0);
        Due.is("fields that are not private",
            Arrays.stream(WindBay.class.getDeclaredFields()).filter(f -> !Modifier.isPrivate(f.getModifiers())).count(), 0);
    }

    private static String told(Method method) {
        String types = Arrays.toString(Arrays.stream(method.getParameterTypes()).map(Class::getSimpleName).toArray());
        return method.getReturnType().getSimpleName() + " " + method.getName()
            + "(" + types.substring(1, types.length() - 1) + ")";
    }

    private static void methods() {
        Map<String, Integer> shown = new TreeMap<>();
        for (Method method : WindBay.class.getDeclaredMethods()) {
            if (!Modifier.isPrivate(method.getModifiers()) && !method.isSynthetic()) {
                shown.put(told(method), method.getModifiers());
            }
        }
        for (String call : FACE) {
            Due.is(call, shown.getOrDefault(call, 0), Modifier.PUBLIC);
            shown.remove(call);
        }
        Due.is("others: " + shown.keySet(), shown.size(), 0);
    }

    private static void exceptions() {
        for (Method method : WindBay.class.getDeclaredMethods()) {
            if (Modifier.isPublic(method.getModifiers())) {
                Class<?>[] thrown = method.getExceptionTypes();
                Due.is("exceptions of " + told(method), thrown.length, method.getName().equals("element") ? 2 : 0);
                if (thrown.length == 2) {
                    Due.is("the first", thrown[0] == IllegalArgumentException.class ? 1 : 0, 1);
                    Due.is("the other one", thrown[1] == IllegalStateException.class ? 1 : 0, 1);
                }
            }
        }
    }
}
