import java.lang.reflect.Array;
import java.lang.reflect.Field;
import java.lang.reflect.Modifier;
import java.util.ArrayDeque;
import java.util.Deque;
import java.util.IdentityHashMap;
import java.util.Map;

/** One object with all that hangs on it stays small, and 512 calls make nothing more: all calls of a run live in one room. */
public final class RoomTest {
    private static final Check CHECK = new Check("RoomTest");
    private static final int MOST_OBJECTS = 200;
    private static final int MOST_ELEMENTS = 40_000;

    public static void main(String[] args) throws Exception {
        AngelTown x = new AngelTown();
        long[] before = room(x);
        CHECK.due(before[0] + " objects and arrays", before[0] <= MOST_OBJECTS, true);
        CHECK.due(before[1] + " fields and elements", before[1] <= MOST_ELEMENTS, true);
        use(x);
        long[] after = room(x);
        CHECK.due("objects and arrays behind the calls", after[0], before[0]);
        CHECK.due("fields and elements behind the calls", after[1], before[1]);
        CHECK.finish();
    }

    private static void use(AngelTown x) {
        for (int i = 0; i < 8; i++) {
            x.ward(9 * i);
            x.angel(8 * i, 1 + i);
            x.other(i, i, 9);
        }
        Check.tell(x, 0, 0, "again 9(east 3;south 3;)");
        Check.tell(x, 1, 0, "mishap 9 at 9 from 0 to 599;mishap 8 at 27 from 0 to 599 chance 50;");
        Check.tell(x, 2, 0, "go 9;push;".repeat(20));
        Check.tell(x, 3, 0, "works when not(x+y*2/3>second or done=5);");
        for (int i = 0; i < 30; i++) {
            x.seconds(10);
            x.planned(0);
            x.least(10);
            x.fewest(1);
            x.near(0, 1, 0);
            x.lot(3, 0);
            x.image(i % 2 == 0);
            x.undo();
        }
    }

    /** How many objects and arrays hang on one, and how many fields and elements these have. */
    private static long[] room(Object from) throws Exception {
        Map<Object, Object> seen = new IdentityHashMap<>();
        Deque<Object> open = new ArrayDeque<>();
        long elements = 0;
        seen.put(from, from);
        open.add(from);
        while (!open.isEmpty()) {
            Object o = open.remove();
            if (o.getClass().isArray()) {
                elements += Array.getLength(o);
                for (int i = 0; i < Array.getLength(o) && !o.getClass().getComponentType().isPrimitive(); i++) {
                    meet(Array.get(o, i), seen, open);
                }
                continue;
            }
            for (Field f : o.getClass().getDeclaredFields()) {
                if (!Modifier.isStatic(f.getModifiers())) {
                    elements++;
                    f.setAccessible(true);
                    meet(f.getType().isPrimitive() ? null : f.get(o), seen, open);
                }
            }
        }
        return new long[] {seen.size(), elements};
    }

    private static void meet(Object o, Map<Object, Object> seen, Deque<Object> open) {
        if (o != null && seen.put(o, o) == null) {
            open.add(o);
        }
    }
}
