import java.lang.reflect.Constructor;
import java.lang.reflect.Field;
import java.lang.reflect.Method;
import java.lang.reflect.Modifier;
import java.util.Random;
import java.util.Set;
import java.util.TreeSet;
import java.util.regex.Matcher;
import java.util.regex.Pattern;

/** The public face: just the document's, and no call of it ever throws. */
public final class FaceTest {
    private static final String[] METHODS = {"feed1", "city0", "fault0", "told1", "far2", "street2", "cart2", "next1",
        "foremost2", "minute1", "drift1", "turn1", "law2", "rank2", "allHome2", "foreseen3", "bought4", "ranks2",
        "bestLaw2", "lost0", "costs2", "decree1", "rut3", "laws1", "write2", "tear0", "judge0", "seed1", "keep1", "goBack1"};

    public static void main(String[] args) throws ReflectiveOperationException {
        theDocumentsFace();
        members();
        constants();
        anyArguments();
        Due.end();
    }

    /** The lists of this test are the document's, line by line. */
    private static void theDocumentsFace() throws ReflectiveOperationException {
        String face = Document.textOf("The public face");
        Matcher call = Pattern.compile("public int (\\w+)\\(([^)]*)\\);").matcher(face);
        int calls = 0;
        for (; call.find(); calls++) {
            int arguments = call.group(2).isEmpty() ? 0 : call.group(2).split(",").length;
            boolean isListed = calls < METHODS.length && METHODS[calls].equals(call.group(1) + arguments);
            Due.is("listed here: " + call.group(), isListed ? 1 : 0, 1);
        }
        Due.is("calls of the document's face", calls, METHODS.length);
        Matcher constant = Pattern.compile("([A-Z]+) = (-\\d+)[,;]").matcher(face);
        int constants = 0;
        for (; constant.find(); constants++) {
            Field field = DecreedStreets.class.getField(constant.group(1));
            Due.is("constant " + constant.group(), field.getInt(null), Long.parseLong(constant.group(2)));
            boolean isConstant = Modifier.isStatic(field.getModifiers()) && Modifier.isFinal(field.getModifiers());
            Due.is("static and final: " + field, isConstant && field.getType() == int.class ? 1 : 0, 1);
        }
        Due.is("constants of the document's face", constants, 5);
    }

    private static void members() {
        Class<?> face = DecreedStreets.class;
        Due.is("public", Modifier.isPublic(face.getModifiers()) ? 1 : 0, 1);
        Due.is("final", Modifier.isFinal(face.getModifiers()) ? 1 : 0, 1);
        Set<String> due = new TreeSet<>(Set.of(METHODS));
        Set<String> names = new TreeSet<>();
        for (Method m : face.getDeclaredMethods()) {
            if (!Modifier.isPrivate(m.getModifiers())) {
                Due.is("the document has " + m, due.remove(m.getName() + m.getParameterCount()) ? 1 : 0, 1);
                Due.is("answers a number: " + m, m.getReturnType() == int.class ? 1 : 0, 1);
                names.add(m.getName());
            }
        }
        Due.is("what the class lacks: " + due, due.size(), 0);
        for (Method m : face.getDeclaredMethods()) {
            if (Modifier.isPrivate(m.getModifiers())) {
                Due.is("a name of its own: " + m, names.contains(m.getName()) ? 0 : 1, 1);
            }
        }
        Constructor<?>[] made = face.getDeclaredConstructors();
        Due.is("constructors", made.length, 1);
        Due.is("its arguments", made[0].getParameterCount(), 0);
        for (Class<?> inside : face.getDeclaredClasses()) {
            Due.is("static: " + inside, Modifier.isStatic(inside.getModifiers()) ? 1 : 0, 1);
            for (Method m : inside.getDeclaredMethods()) {
                Due.is("a name of its own: " + m, names.contains(m.getName()) ? 0 : 1, 1);
            }
        }
    }

    private static void constants() {
        int[] want = {-1, -1000000001, -1000000002, -1000000003, -1000000004};
        int[] got = {DecreedStreets.NONE, DecreedStreets.UNKNOWN, DecreedStreets.OUTSIDE, DecreedStreets.NOT, DecreedStreets.FULL};
        int open = 0;
        for (Field f : DecreedStreets.class.getDeclaredFields()) {
            open += Modifier.isPrivate(f.getModifiers()) ? 0 : 1;
        }
        Due.is("fields that can be seen", open, 5);
        for (int i = 0; i < 5; i++) {
            Due.is("constant " + i, got[i], want[i]);
        }
    }

    private static void anyArguments() throws ReflectiveOperationException {
        String[] cities = {"", "c2 1;", "c2 1;s0 1 1 0;", "c3 60;k0 1 0 1 0;k2 1 9 9 99;",
            "c4 2;s0 1 1 0;s1 2 9 1;s2 3 3 2;s3 0 4 3;s0 2 5 4;k0 1 0 1 0;k2 0 3 5 50;k3 1 2 9 99;k1 3 200 2 9;"};
        int[] edges = {Integer.MIN_VALUE, Integer.MIN_VALUE + 1, -1000000001, -2, -1, 0, 1, 2, 3, 4, 5, 6, 7, 8, 9, 10, 12,
            99, 100, 250, 255, 256, 300, 301, 999, 1000, 99999, 100000, Integer.MAX_VALUE - 1, Integer.MAX_VALUE};
        Random random = new Random(1);
        for (int run = 0; run < 60; run++) {
            DecreedStreets x = Due.of(cities[run % cities.length]);
            for (int i = 0; i < 500; i++) {
                callAny(x, random, edges);
            }
        }
    }

    private static void callAny(DecreedStreets x, Random random, int[] edges) throws ReflectiveOperationException {
        Method[] all = DecreedStreets.class.getMethods();
        Method m = all[random.nextInt(all.length)];
        // the text would fill, or a city of nothing take the place of this one
        if (m.getDeclaringClass() != DecreedStreets.class || m.getName().equals("city") || m.getName().equals("feed")) {
            return;
        }
        Object[] arguments = new Object[m.getParameterCount()];
        for (int i = 0; i < arguments.length; i++) {
            arguments[i] = edges[random.nextInt(edges.length)];
        }
        m.invoke(x, arguments);
    }
}
