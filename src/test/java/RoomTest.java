import java.lang.management.ManagementFactory;
import java.lang.reflect.Array;
import java.lang.reflect.Field;
import java.lang.reflect.Modifier;
import java.util.ArrayDeque;
import java.util.Collections;
import java.util.Deque;
import java.util.IdentityHashMap;
import java.util.Set;

/** What an object takes of the room in which all calls of a run live, and what calls add to it. */
public final class RoomTest extends Checks {
    private static final int CALLS = 512;
    /** Of an object some 17,000 elements: even some hundred objects in one run are far from filling its room. */
    private static final int OBJECTS = 300;
    private static final int ELEMENTS = 20000;
    /** Less than one small object a call, and room for what the machine itself may make meanwhile. */
    private static final int BYTES = 1024;

    public static void main(String[] args) throws IllegalAccessException {
        says("make rows in constructors and use them again");
        holdsLittle("a new object", new SharedPurse());
        SharedPurse x = of(full());
        questions(x);
        holdsLittle("one that was asked much", x);
        acts(x);
        holdsLittle("one that was changed much", x);
        says("count your dearest call's objects and elements times all calls");
        makesNothing();
        finish("the room is wide enough");
    }

    /** Twelve projects, 24 voters, and a law. */
    private static String full() {
        StringBuilder text = new StringBuilder("budget 700;law score*10+liked;");
        StringBuilder votes = new StringBuilder();
        for (char name = 'a'; name <= 'l'; name++) {
            text.append("project ").append(name).append(' ').append(90 + 7 * (name - 'a')).append(';');
            votes.append(name).append(name % 9 + 1);
        }
        return text.append("votes 9").append(votes).append(";votes 8 a 1 c 2 l 9;votes 7 b 9 d 1;").toString();
    }

    /** All that is dear, by each rule. */
    private static int questions(SharedPurse x) {
        int calls = 0;
        for (int rule = 0; rule <= 8; rule++) {
            x.outcome(rule, 3);
            x.groups(rule, 1);
            x.away(rule, 3);
            x.voting(rule, 20, 3, 9);
            x.ride(rule, 0, 0);
            x.push(rule, 7);
            x.discount(rule, 11);
            x.isServed(4095, rule, true);
            calls += 8;
        }
        return calls;
    }

    private static int acts(SharedPurse x) {
        for (int k = 0; k < 25; k++) {
            x.score(k % 24, k % 12, k % 10);
            x.cost(k % 12, 90 + k);
        }
        x.image();
        x.go(true, 5);
        x.go(false, 5);
        x.undo();
        x.back();
        return 55;
    }

    private static void holdsLittle(String what, SharedPurse x) throws IllegalAccessException {
        Set<Object> seen = Collections.newSetFromMap(new IdentityHashMap<>());
        Deque<Object> open = new ArrayDeque<>();
        open.add(x);
        seen.add(x);
        int elements = 0;
        while (!open.isEmpty()) {
            Object o = open.remove();
            elements += o.getClass().isArray() ? lookIntoArray(o, seen, open) : lookIntoObject(o, seen, open);
        }
        yes(what + " holds " + seen.size() + " objects", seen.size() <= OBJECTS);
        yes(what + " holds " + elements + " elements", elements <= ELEMENTS);
    }

    private static int lookIntoArray(Object o, Set<Object> seen, Deque<Object> open) {
        if (o instanceof Object[]) {
            for (Object part : (Object[]) o) {
                meet(part, seen, open);
            }
        }
        return Array.getLength(o);
    }

    private static int lookIntoObject(Object o, Set<Object> seen, Deque<Object> open) throws IllegalAccessException {
        int fields = 0;
        for (Field f : o.getClass().getDeclaredFields()) {
            if (!Modifier.isStatic(f.getModifiers())) {
                fields++;
                f.setAccessible(true);
                if (!f.getType().isPrimitive()) {
                    meet(f.get(o), seen, open);
                }
            }
        }
        return fields;
    }

    private static void meet(Object part, Set<Object> seen, Deque<Object> open) {
        if (part != null && seen.add(part)) {
            open.add(part);
        }
    }

    /** Nearly as many calls as an object may be asked: where nothing is thrown, none of these makes an object. */
    private static void makesNothing() {
        com.sun.management.ThreadMXBean thread =
                (com.sun.management.ThreadMXBean) ManagementFactory.getThreadMXBean();
        SharedPurse x = of(full());
        questions(x);
        acts(x);
        SharedPurse y = of(full());
        long before = thread.getCurrentThreadAllocatedBytes();
        long idle = thread.getCurrentThreadAllocatedBytes() - before;
        before = thread.getCurrentThreadAllocatedBytes();
        int calls = 40;
        while (calls < CALLS - 130) {
            calls += questions(y);
            calls += acts(y);
        }
        long made = thread.getCurrentThreadAllocatedBytes() - before - idle;
        yes(calls + " calls made " + made + " bytes", made <= BYTES);
    }
}
