import java.lang.management.ManagementFactory;
import java.lang.reflect.Array;
import java.lang.reflect.Field;
import java.lang.reflect.Modifier;
import java.util.ArrayDeque;
import java.util.Collections;
import java.util.Deque;
import java.util.IdentityHashMap;
import java.util.Set;

/** One object is small, and calls make nothing that stays or goes: the room of a run is that of its constructors. */
public final class RoomTest {
    private static final int MOST_OBJECTS = 200;
    private static final int MOST_ELEMENTS = 12000;

    public static void main(String[] args) throws Exception {
        ResidueCover x = new ResidueCover();
        int wrong = sizes(x);
        // Once to have all classes loaded, then once to be counted.
        calls(new ResidueCover());
        com.sun.management.ThreadMXBean counter = (com.sun.management.ThreadMXBean) ManagementFactory.getThreadMXBean();
        long thread = Thread.currentThread().getId();
        counter.getThreadAllocatedBytes(thread);
        long before = counter.getThreadAllocatedBytes(thread);
        calls(x);
        long made = counter.getThreadAllocatedBytes(thread) - before;
        if (made > 4096) {
            System.out.println("calls made " + made + " bytes");
            wrong++;
        }
        System.exit(wrong == 0 ? 0 : 1);
    }

    private static int sizes(ResidueCover x) throws Exception {
        Set<Object> seen = Collections.newSetFromMap(new IdentityHashMap<>());
        Deque<Object> open = new ArrayDeque<>();
        open.add(x);
        seen.add(x);
        long elements = 0;
        while (!open.isEmpty()) {
            Object o = open.remove();
            if (o.getClass().isArray()) {
                elements += Array.getLength(o);
                for (int i = 0; i < Array.getLength(o) && !o.getClass().getComponentType().isPrimitive(); i++) {
                    visit(Array.get(o, i), seen, open);
                }
                continue;
            }
            for (Field f : o.getClass().getDeclaredFields()) {
                if (!Modifier.isStatic(f.getModifiers())) {
                    elements++;
                    f.setAccessible(true);
                    if (!f.getType().isPrimitive()) {
                        visit(f.get(o), seen, open);
                    }
                }
            }
        }
        System.out.println("one object: " + seen.size() + " objects and arrays, " + elements + " fields and elements");
        return seen.size() > MOST_OBJECTS || elements > MOST_ELEMENTS ? 1 : 0;
    }

    private static void visit(Object o, Set<Object> seen, Deque<Object> open) {
        if (o != null && seen.add(o)) {
            open.add(o);
        }
    }

    private static void calls(ResidueCover x) {
        x.feed(0x636c6173, 0x73206120, 0x72657374, 0x20312062, 0x7920323b);
        x.system(20);
        x.feed(0x6c6f6f70, 0x20393b61, 0x6e793b65, 0x6e643b20, 0x20202020);
        x.days(20);
        for (int i = 0; i < 8; i++) {
            x.add(i, 7 + i % 3);
        }
        x.tray(0, 0, 24);
        for (int i = 0; i < 6; i++) {
            x.write(0, i, 2 + i % 2);
        }
        for (int i = -1; i < 8; i++) {
            x.told(i);
            x.tree(i);
            x.leafOf(i);
            x.choices(0, i, 0);
            x.choiceAt(0, i, 2, 0);
            x.game(i);
            x.moveOf(i);
            x.uncaught(i, 1);
            x.alone(i);
            x.gapAt(i);
            x.lived(i);
            x.split(i, 2);
            x.join(i, 2);
            x.mark();
            x.live(i);
            x.mean(i, 20);
            x.undo();
        }
        x.needless();
        x.fewest();
        x.fewestSet();
        x.thick();
        x.ask();
        x.turnsBy();
        x.pour(0, 0, 0, 1, 5);
        x.copySystem(0);
    }
}
