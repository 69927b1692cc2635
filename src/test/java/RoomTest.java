import java.lang.management.ManagementFactory;
import java.lang.reflect.Array;
import java.lang.reflect.Field;
import java.lang.reflect.Modifier;
import java.nio.file.Files;
import java.nio.file.Path;
import java.util.IdentityHashMap;

/** How much room an object takes, as README.md tells it too, and that no call makes another object. Run it in the project's folder. */
public final class RoomTest {
    private static int objects;
    private static int elements;

    public static void main(String[] args) throws Exception {
        count(new ChainLetters(), new IdentityHashMap<>());
        System.out.println("a new object: " + objects + " objects, " + elements + " fields and elements");
        Check.that("at most 100 objects", objects <= 100);
        Check.that("at most 6000 fields and elements", elements <= 6000);
        String told = "(" + objects + " objects, some 4,400 fields and elements)";
        Check.that("README.md tells the room: " + told, Files.readString(Path.of("README.md")).replace('\n', ' ').contains(told));
        Check.due("fields and elements in hundreds", Math.round(elements / 100.0), 44);
        com.sun.management.ThreadMXBean bean = (com.sun.management.ThreadMXBean) ManagementFactory.getThreadMXBean();
        long id = Thread.currentThread().getId();
        bean.getThreadAllocatedBytes(id);
        ChainLetters[] some = new ChainLetters[5];
        for (int i = 0; i < some.length; i++) some[i] = new ChainLetters();
        callAll(new ChainLetters());
        // The least of some times: the machine itself may make something beside the calls now and then.
        long made = Long.MAX_VALUE;
        for (int i = 0; i < some.length; i++) {
            long ahead = bean.getThreadAllocatedBytes(id);
            callAll(some[i]);
            made = Math.min(made, bean.getThreadAllocatedBytes(id) - ahead);
        }
        Check.that("calls made " + made + " bytes", made == 0);
        Check.end();
    }

    private static void count(Object o, IdentityHashMap<Object, Object> seen) throws IllegalAccessException {
        if (o == null || seen.put(o, o) != null) return;
        objects++;
        if (o.getClass().isArray()) {
            elements += Array.getLength(o);
            return;
        }
        for (Field f : o.getClass().getDeclaredFields()) {
            if (Modifier.isStatic(f.getModifiers())) continue;
            elements++;
            f.setAccessible(true);
            if (!f.getType().isPrimitive()) count(f.get(o), seen);
        }
    }

    private static void callAll(ChainLetters x) {
        for (int i = 0; i < 8; i++) {
            x.letter(i, 90);
            for (int s = 0; s < 8; s++) x.form(i, s, (i * s) % 4 - 1);
            x.name(1 + i % 6, 14348907 >> 3 * i | 1);
            x.name(2, 28 + i);
        }
        x.cost(4, 0);
        for (int i = 0; i < 10; i++) {
            x.habit(i, 100 - i);
            x.asking(i, i, 10);
            x.sends(i, 1023 - 3 * i);
            x.copies(i, i, 100 - i, 9);
            x.keep(i);
        }
        for (int i = 0; i < 8; i++) {
            x.price(i, 3);
            x.least();
            x.way(i);
            x.may(i, 170);
            x.sure(i);
            x.date(i, 1);
            x.slips(i, 1);
            x.worn(i, 1, -1);
            x.worn(0, i, 2);
            x.gone(i % 4);
            x.run(i, 77, i);
            x.reach(i, 64);
            x.stop(i, 4);
            x.sign(i);
            x.limb(0, i);
            x.count(i);
            x.round(i, i);
            x.outrun(i, 10000000L);
            x.best(i % 2);
        }
        x.lives();
        x.mean();
        x.hidden();
        x.digest();
        x.burn();
    }
}
