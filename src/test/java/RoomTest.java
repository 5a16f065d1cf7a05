import java.lang.management.ManagementFactory;
import java.lang.reflect.Array;
import java.lang.reflect.Field;
import java.lang.reflect.Modifier;
import java.util.ArrayDeque;
import java.util.Collections;
import java.util.IdentityHashMap;
import java.util.Set;

/** All calls of a run live in one room: an object is small, and its calls make nothing new. */
public final class RoomTest {
    private static long elements = 0;

    public static void main(String[] args) throws IllegalAccessException {
        PiecesThatFit x = Check.object("A=AAAA|BBBB|a|b;B=ABAB|CCCC|c|d;C=ABCA|e|AAAA|BBBB", "abcdeabcdeabcd");
        int objects = objectsOf(x);
        System.out.println(objects + " objects and arrays, " + elements + " fields and elements");
        Check.isTrue("few objects", objects < 300);
        Check.isTrue("few elements", elements < 10_000);
        askAll(x);
        com.sun.management.ThreadMXBean threads =
                (com.sun.management.ThreadMXBean) ManagementFactory.getThreadMXBean();
        long id = Thread.currentThread().getId();
        long measuring = -threads.getThreadAllocatedBytes(id) + threads.getThreadAllocatedBytes(id);
        long before = threads.getThreadAllocatedBytes(id);
        for (int k = 0; k < 20; k++) {
            askAll(x);
        }
        long made = threads.getThreadAllocatedBytes(id) - before - measuring;
        Check.isTrue("calls make nothing: " + made + " bytes", made < 4_000);
        Check.finish();
    }

    private static int objectsOf(Object root) throws IllegalAccessException {
        Set<Object> seen = Collections.newSetFromMap(new IdentityHashMap<>());
        ArrayDeque<Object> todo = new ArrayDeque<>();
        todo.add(root);
        while (!todo.isEmpty()) {
            Object o = todo.pop();
            if (!seen.add(o)) {
                continue;
            }
            if (o.getClass().isArray()) {
                elements += Array.getLength(o);
                for (int i = 0; i < Array.getLength(o) && o instanceof Object[]; i++) {
                    todo.add(Array.get(o, i));
                }
                continue;
            }
            for (Field field : o.getClass().getDeclaredFields()) {
                if (!Modifier.isStatic(field.getModifiers())) {
                    field.setAccessible(true);
                    elements++;
                    if (!field.getType().isPrimitive()) {
                        todo.add(field.get(o));
                    }
                }
            }
        }
        return seen.size();
    }

    private static void askAll(PiecesThatFit x) {
        x.keep(0);
        x.end(0);
        x.sign(0x413d6141);
        x.sign(0x627c0000);
        x.end(6);
        x.grammar();
        x.apart(0, 4);
        x.undo();
        x.sign(0x72303161);
        x.sign(0x72303162);
        x.day();
        x.undo();
        x.sign(0x61626364);
        x.brackets();
        x.undo();
        x.sign(0x61626364);
        x.line();
        x.undo();
        x.sheet(0, 14, 0, 1);
        for (int i = 0; i <= 16; i++) {
            x.fits(i, 16);
            x.onwards(i);
            x.back(i);
            x.next(i, i);
            x.ahead(i, i);
            x.yields(0, 3, i, i);
            x.mate(i);
            x.without(i);
            x.wide(i);
            x.capital(i, i);
            x.count(i);
        }
        x.sentence();
        x.report();
        x.backwards();
        x.led();
        x.least();
        x.needed();
        x.blames();
        x.longest();
        x.weakest();
        x.sentences(4);
        x.becomes(1, 1);
        x.goes(1);
        x.comes(1, 1);
        x.years(1, 20);
        x.keep(1);
        x.again(0);
    }
}
