import java.lang.reflect.Constructor;
import java.lang.reflect.Field;
import java.lang.reflect.Method;
import java.lang.reflect.Modifier;
import java.util.ArrayList;
import java.util.List;
import java.util.Set;
import java.util.TreeSet;

/** The public face of the document, and no call that throws, whatever its arguments are. */
public final class FaceTest {
    private static final Check CHECK = new Check("FaceTest");

    private static final Set<String> FACE = Set.of(
        "int state(int)", "boolean town(int,int)", "boolean set(int,int,int)", "int ward(int)", "int angel(int,int)",
        "int other(int,int,int)", "int feed(int,int,int,int,int)", "boolean end(int)", "int text(int,int)", "int fault(int)",
        "int seconds(int)", "int of(int,int)", "int at(int,int)", "int mishap(int,int)", "int book(int,int)", "int planned(int)",
        "int least(int)", "int fewest(int)", "int hopeless()", "int shows()", "long lot(int,int)", "int near(int,int,int)",
        "boolean undo()", "boolean image(boolean)", "int look(int)");

    public static void main(String[] args) throws Exception {
        faceIsTheDocuments();
        classesInside();
        noCallThrows();
        CHECK.finish();
    }

    private static String told(Method m) {
        List<String> types = new ArrayList<>();
        for (Class<?> t : m.getParameterTypes()) {
            types.add(t.getSimpleName());
        }
        return m.getReturnType().getSimpleName() + " " + m.getName() + "(" + String.join(",", types) + ")";
    }

    private static void faceIsTheDocuments() throws Exception {
        Class<?> c = AngelTown.class;
        CHECK.due("public and final", Modifier.isPublic(c.getModifiers()) && Modifier.isFinal(c.getModifiers()), true);
        CHECK.due("NONE", AngelTown.NONE, -1);
        Set<String> names = new TreeSet<>();
        Set<String> found = new TreeSet<>();
        for (Method m : c.getDeclaredMethods()) {
            if (Modifier.isPublic(m.getModifiers())) {
                found.add(told(m));
                names.add(m.getName());
                CHECK.due("not static: " + m, Modifier.isStatic(m.getModifiers()), false);
            }
        }
        CHECK.due("the face: " + found, found.equals(new TreeSet<>(FACE)), true);
        for (Method m : c.getDeclaredMethods()) {
            if (!Modifier.isPublic(m.getModifiers())) {
                CHECK.due("private: " + m, Modifier.isPrivate(m.getModifiers()), true);
                CHECK.due("a name of its own: " + m, names.contains(m.getName()), false);
            }
        }
        for (Field f : c.getDeclaredFields()) {
            CHECK.due("private: " + f, Modifier.isPrivate(f.getModifiers()), !f.getName().equals("NONE"));
        }
        for (Constructor<?> k : c.getDeclaredConstructors()) {
            CHECK.due("one constructor: " + k, Modifier.isPublic(k.getModifiers()) && k.getParameterCount() == 0, true);
        }
        for (Class<?> inside : c.getDeclaredClasses()) {
            for (Method m : inside.getDeclaredMethods()) {
                CHECK.due("inside a name of its own: " + m, names.contains(m.getName()), false);
                CHECK.due("seven at most: " + m, m.getParameterCount() <= 7, true);
            }
        }
    }

    private static void classesInside() {
        Class<?>[] inside = AngelTown.class.getDeclaredClasses();
        CHECK.due("twelve classes at most", inside.length + 1 <= 12, true);
        for (Class<?> c : inside) {
            CHECK.due("static: " + c, Modifier.isStatic(c.getModifiers()), true);
            CHECK.due("not public: " + c, Modifier.isPublic(c.getModifiers()) || Modifier.isProtected(c.getModifiers()), false);
            int fields = 0;
            for (Field f : c.getDeclaredFields()) {
                if (Modifier.isStatic(f.getModifiers())) {
                    CHECK.due("final: " + f, Modifier.isFinal(f.getModifiers()), true);
                } else {
                    fields++;
                }
            }
            CHECK.due("twenty fields at most: " + c, fields <= 20, true);
        }
    }

    private static final int[] ODD = {Integer.MIN_VALUE, Integer.MIN_VALUE + 1, -65, -2, -1, 0, 1, 2, 5, 6, 8, 9, 10, 31, 32, 63, 64, 600,
        Integer.MAX_VALUE - 1, Integer.MAX_VALUE};

    /** A call that throws ends the test with it. */
    private static void noCallThrows() throws Exception {
        java.util.Random random = new java.util.Random(4711);
        for (int run = 0; run < 300; run++) {
            AngelTown x = new AngelTown();
            List<Method> calls = new ArrayList<>();
            for (Method m : AngelTown.class.getDeclaredMethods()) {
                if (Modifier.isPublic(m.getModifiers())) {
                    calls.add(m);
                }
            }
            calls.sort((p, q) -> p.getName().compareTo(q.getName()));
            for (int i = 0; i < 512; i++) {
                Method m = calls.get(random.nextInt(calls.size()));
                Object[] args = new Object[m.getParameterCount()];
                for (int j = 0; j < args.length; j++) {
                    boolean bool = m.getParameterTypes()[j] == boolean.class;
                    int v = random.nextInt(3) == 0 ? ODD[random.nextInt(ODD.length)] : random.nextInt(9);
                    args[j] = bool ? (Object) random.nextBoolean() : (Object) v;
                }
                if (m.getName().equals("text") && random.nextInt(3) > 0) {
                    x.end(0);
                    Check.feed(x, SAMPLES[random.nextInt(SAMPLES.length)]);
                }
                m.invoke(x, args);
            }
            CHECK.due("run " + run + " ended", true, true);
        }
    }

    private static final String[] SAMPLES = {"east 3;south 2;", "again 9(again 6(west 1;north 1;))", "mishap 9 at 0 from 0 to 99;",
        "mishap 9 at 1 from 0 to 599 unless cat chance 50;mishap 8 at 8 from 3 to 70;".repeat(5), "go 1;push;wait 2;cat;",
        "works when x<y*second/3 and not(kind=1 or spoilt=1);fails;", "door;".repeat(40), "stand"};
}
