import java.lang.reflect.Array;
import java.lang.reflect.Field;
import java.lang.reflect.Modifier;
import java.util.ArrayDeque;
import java.util.Collections;
import java.util.IdentityHashMap;
import java.util.Queue;
import java.util.Set;

/** How much room an object takes: all calls of a run share 600,000 objects and 7.3 million fields and elements. */
public final class RoomTest {
    private static final int MOST_OBJECTS = 100;
    private static final int MOST_CELLS = 15000;

    private int objects = 0;
    private int cells = 0;

    public static void main(String[] args) throws IllegalAccessException {
        RoomTest fresh = new RoomTest();
        fresh.count(new PennyBooks());
        Tests.due("few objects: " + fresh.objects, fresh.objects <= MOST_OBJECTS, true);
        Tests.due("few fields and elements: " + fresh.cells, fresh.cells <= MOST_CELLS, true);
        PennyBooks[] used = {Desks.rich(), Desks.fullOfFamilies(), Desks.fullOfLines(), Desks.fullOfReadings(),
            Desks.fullOfEditions(), Desks.fullOfSums(), Desks.fullOfMembers(), Desks.fullOfLosses()};
        for (PennyBooks x : used) {
            for (Probe probe : Probe.ALL) {
                probe.answers(x);
            }
            RoomTest behind = new RoomTest();
            behind.count(x);
            Tests.due("no call makes an object", behind.objects, fresh.objects);
            Tests.due("no call makes a row longer", behind.cells, fresh.cells);
        }
        Tests.end();
    }

    private void count(PennyBooks x) throws IllegalAccessException {
        Set<Object> seen = Collections.newSetFromMap(new IdentityHashMap<>());
        Queue<Object> left = new ArrayDeque<>();
        left.add(x);
        seen.add(x);
        while (!left.isEmpty()) {
            Object one = left.remove();
            objects++;
            if (one.getClass().isArray()) {
                cells += Array.getLength(one);
                continue;
            }
            for (Field field : one.getClass().getDeclaredFields()) {
                if (Modifier.isStatic(field.getModifiers())) {
                    continue;
                }
                cells++;
                field.setAccessible(true);
                Object part = field.getType().isPrimitive() ? null : field.get(one);
                if (part != null && seen.add(part)) {
                    left.add(part);
                }
            }
        }
    }
}
