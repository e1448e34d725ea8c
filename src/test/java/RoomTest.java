import java.lang.management.ManagementFactory;
import java.lang.reflect.Array;
import java.lang.reflect.Field;
import java.lang.reflect.Modifier;
import java.util.ArrayDeque;
import java.util.Collections;
import java.util.Deque;
import java.util.IdentityHashMap;
import java.util.Set;

/** Counts what an object holds when it is made, and that its calls make nothing more. */
public final class RoomTest {
    private static final int OBJECTS = 300;
    private static final int ELEMENTS = 20000;

    public static void main(String[] args) throws Exception {
        Hand.about("room");
        countHeld();
        countMade();
        Hand.end("RoomTest");
    }

    private static void countHeld() throws Exception {
        Set<Object> seen = Collections.newSetFromMap(new IdentityHashMap<>());
        Deque<Object> open = new ArrayDeque<>();
        open.add(new BracketRoom());
        long elements = 0;
        while (!open.isEmpty()) {
            Object o = open.poll();
            if (!seen.add(o)) {
                continue;
            }
            if (o.getClass().isArray()) {
                elements += Array.getLength(o);
                for (int i = 0; !o.getClass().getComponentType().isPrimitive() && i < Array.getLength(o); i++) {
                    open.add(Array.get(o, i));
                }
                continue;
            }
            for (Field f : o.getClass().getDeclaredFields()) {
                if (Modifier.isStatic(f.getModifiers())) {
                    continue;
                }
                elements++;
                f.setAccessible(true);
                if (!f.getType().isPrimitive()) {
                    open.add(f.get(o));
                }
            }
        }
        System.out.println("a new object holds " + seen.size() + " objects, " + elements + " fields and elements");
        Hand.due("few objects", seen.size() <= OBJECTS, true);
        Hand.due("few fields and elements", elements <= ELEMENTS, true);
    }

    private static void countMade() {
        com.sun.management.ThreadMXBean bean = (com.sun.management.ThreadMXBean) ManagementFactory.getThreadMXBean();
        BracketRoom r = Hand.room("prime 3; size 5; bracket 0 1 gives 1 of 4; bracket 2 3 gives 1 of 4;");
        Hand.fill(r, 0, 2, 1, 3, 9, 27, 81, 0, 0, 0, 0, 0, 0, 0, 0, 0, 0, 0, 0, 0, 0, 0, 0, 0, 0, 0, 0);
        r.keep(0);
        Hand.script(r, "loop 20; swap 0 1; when same 0; keep 1; end; take 1; end;");
        everything(r);
        long before = bean.getCurrentThreadAllocatedBytes();
        long between = bean.getCurrentThreadAllocatedBytes();
        everything(r);
        long behind = bean.getCurrentThreadAllocatedBytes();
        long made = behind - between - (between - before);
        System.out.println("calls made " + made + " bytes");
        Hand.due("calls make nothing", made <= 0, true);
    }

    private static void everything(BracketRoom r) {
        r.feed(0, 0, 0, 0, 0);
        r.world(20);
        r.script(301);
        r.mark();
        r.span(0, 5, 2);
        r.share();
        r.radical(0);
        r.radical(1);
        for (int what = 0; what < 6; what++) {
            r.is(what);
            r.parts(2, what);
            r.classes(what);
            r.many(what);
        }
        r.derived(9);
        r.lower(9);
        r.centre();
        r.centralizer(5);
        r.rank(5);
        r.power(5);
        r.derivations(2);
        r.form();
        r.commuting();
        r.maps();
        r.sameAs(0);
        r.parted(0);
        r.barred(0);
        r.run();
        r.change(0);
        r.squeeze(0);
        r.cocycle(0);
        r.grow(0);
        r.sum(0);
        r.rest(0, 1);
        r.takeOut(0, 2);
        r.tables(2, 3, 1);
        r.pour(0, 0, 0, 1, 4);
        r.back();
    }
}
