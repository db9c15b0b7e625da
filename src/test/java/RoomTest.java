import java.lang.management.ManagementFactory;
import java.lang.reflect.Array;
import java.lang.reflect.Field;
import java.lang.reflect.Modifier;
import java.util.ArrayDeque;
import java.util.Collections;
import java.util.Deque;
import java.util.IdentityHashMap;
import java.util.Set;

/** What one object holds and what its calls make: all calls of one run live in one room. */
public final class RoomTest {
    private static final int MOST_OBJECTS = 1000;
    private static final int MOST_ELEMENTS = 100000;
    /** Bytes: less than one small row for each second call. */
    private static final long MADE_BY_THE_WAY = 2000;
    private static final String TEXT = "field 4 by 4;dew 3 3 99;person a at 0 0 up 0 sheet 30 owes 7;person b at 3 3 up 1 sheet 9 owes 1;"
        + "person c at 1 1 up 4 sheet 50 owes 9;falls 2+day%3;sun if(hour>3 and not dew<2,1,0);takes min(9,sheet/(have+1));mist 50;";

    private final Set<Object> seen = Collections.newSetFromMap(new IdentityHashMap<>());
    private final Deque<Object> open = new ArrayDeque<>();
    private long elements;

    public static void main(String[] args) throws Exception {
        oneObject(new DewWages());
        DewWages used = Checks.told(TEXT);
        calls(used);
        oneObject(used);
        callsMakeNothing();
        Checks.finish();
    }

    private static void oneObject(DewWages x) throws Exception {
        RoomTest room = new RoomTest();
        room.count(x);
        Checks.is("objects and arrays, here " + room.seen.size(), room.seen.size() <= MOST_OBJECTS, true);
        Checks.is("fields and elements, here " + room.elements, room.elements <= MOST_ELEMENTS, true);
    }

    private void count(Object first) throws Exception {
        meet(first);
        while (!open.isEmpty()) {
            Object o = open.pop();
            if (o.getClass().isArray()) {
                countArray(o);
            } else if (!(o instanceof String)) {
                countFields(o);
            }
        }
    }

    private void meet(Object o) {
        if (o != null && seen.add(o)) {
            open.push(o);
        }
    }

    private void countArray(Object row) {
        int length = Array.getLength(row);
        elements += length;
        for (int i = 0; i < length && !row.getClass().getComponentType().isPrimitive(); i++) {
            meet(Array.get(row, i));
        }
    }

    private void countFields(Object o) throws Exception {
        for (Field field : o.getClass().getDeclaredFields()) {
            if (!Modifier.isStatic(field.getModifiers())) {
                elements++;
                field.setAccessible(true);
                if (!field.getType().isPrimitive()) {
                    meet(field.get(o));
                }
            }
        }
    }

    /** Each call once or more; what the tape needs is fed as numbers, so that nothing is made here. */
    private static int calls(DewWages x) {
        int sum = x.days(3) + x.chance(2) + x.image() + x.octet(2) + x.status(0) + x.kept(0, 1) + x.letter(0, 0) + x.cell(1, 1);
        sum += (x.rise(0, 3) ? 1 : 0) + (x.move(1, 0, 3) ? 1 : 0) + (x.weave(2, 70) ? 1 : 0) + (x.seed(7) ? 1 : 0);
        for (int p = 0; p < 3; p++) {
            sum += x.today(p, 8, 2) + x.up(p, 0) + x.home(p, 2) + x.way(p, 5, -1) + x.purse(p, 40) + x.dry(p) + x.person(p, 5);
        }
        sum += x.dew(1, 1, 8) + x.changed(2) + x.later(1, 1, 40) + x.walkers(0) + x.tells(3) + x.has(4) + x.fault(0);
        x.feed(0, 0x01000000, 0x02000000, 0, 0);
        sum += (x.end(12) ? 1 : 0) + x.see() + x.walkers(1) + x.tells(0);
        x.feed(0, 0, 0, 0, 0);
        sum += (x.on() ? 1 : 0) + (x.undo() ? 1 : 0) + (x.undo() ? 1 : 0) + (x.undo() ? 1 : 0);
        x.feed(0x6669656c, 0x64203220, 0x62792032, 0x3b66616c, 0x6c73203f);
        return sum + x.valley();
    }

    private static void callsMakeNothing() {
        com.sun.management.ThreadMXBean threads = (com.sun.management.ThreadMXBean) ManagementFactory.getThreadMXBean();
        long me = Thread.currentThread().getId();
        DewWages x = Checks.told(TEXT);
        calls(x);
        calls(x);
        long before = threads.getThreadAllocatedBytes(me);
        int sum = 0;
        for (int i = 0; i < 5; i++) {
            sum += calls(x);
        }
        long made = threads.getThreadAllocatedBytes(me) - before;
        Checks.is("the calls answer", sum != 0, true);
        Checks.is("bytes that five rounds of calls make, here " + made, made <= MADE_BY_THE_WAY, true);
    }
}
