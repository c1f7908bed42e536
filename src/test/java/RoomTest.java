import com.sun.management.ThreadMXBean;
import java.lang.management.ManagementFactory;
import java.lang.reflect.Array;
import java.lang.reflect.Field;
import java.lang.reflect.Modifier;
import java.util.IdentityHashMap;
import java.util.Random;

/** LANGUAGE.md, rule 12: no call makes an object or an array; a new object is small. */
public final class RoomTest {
    private static final int RUNS = 40, CALLS = 6 * Calls.MANY;

    private final IdentityHashMap<Object, Boolean> seen = new IdentityHashMap<>();
    private int objects;
    private int numbers;

    public static void main(String[] args) throws IllegalAccessException {
        aNewObjectIsSmall();
        noCallMakesAnObject();
        Due.end();
    }

    static void aNewObjectIsSmall() throws IllegalAccessException {
        RoomTest room = new RoomTest();
        room.counts(new NameThrownBack());
        System.out.println(room.objects + " objects and arrays, " + room.numbers + " fields and elements");
        Due.holds("some objects", room.objects > 1 && room.objects < 60);
        Due.holds("some fields and elements", room.numbers > 160 && room.numbers < 2500);
    }

    private void counts(Object o) throws IllegalAccessException {
        if (o == null || seen.put(o, true) != null) {
            return;
        }
        objects++;
        if (o.getClass().isArray()) {
            numbers += Array.getLength(o);
            for (int i = 0; i < Array.getLength(o) && !o.getClass().getComponentType().isPrimitive(); i++) {
                counts(Array.get(o, i));
            }
            return;
        }
        for (Field f : o.getClass().getDeclaredFields()) {
            if (!Modifier.isStatic(f.getModifiers())) {
                numbers++;
                f.setAccessible(true);
                if (!f.getType().isPrimitive()) {
                    counts(f.get(o));
                }
            }
        }
    }

    /** The same run twice on new objects: the first one wakes up what the machine itself makes once. */
    static void noCallMakesAnObject() {
        ThreadMXBean machine = (ThreadMXBean) ManagementFactory.getThreadMXBean();
        Due.holds("the machine counts what is made", machine.isThreadAllocatedMemorySupported());
        machine.setThreadAllocatedMemoryEnabled(true);
        for (int run = 0; run < RUNS; run++) {
            int[] made = new int[Calls.MANY];
            run(machine, run, made);
            made = new int[Calls.MANY];
            run(machine, run, made);
            for (int call = 0; call < Calls.MANY; call++) {
                Due.is("run " + run + ": bytes made by " + Calls.name(call, new int[6]), made[call], 0);
            }
        }
    }

    static void run(ThreadMXBean machine, int run, int[] made) {
        Random lots = new Random(run);
        NameThrownBack x = new NameThrownBack();
        Calls.start(x, lots);
        int[] a = new int[6];
        Due.feed(x, "lets -(not 1-2);lucks 3;takes 4;");
        asks(machine, x, Calls.TEXT, a, made);
        for (int i = 0; i < CALLS; i++) {
            int call = i % Calls.MANY;
            for (int k = 0; k < a.length; k++) {
                a[k] = lots.nextInt(lots.nextInt(8) + 1);
            }
            asks(machine, x, call, a, made);
        }
    }

    static void asks(ThreadMXBean machine, NameThrownBack x, int call, int[] a, int[] made) {
        long was = machine.getCurrentThreadAllocatedBytes();
        Calls.ask(x, call, a);
        made[call] += (int) (machine.getCurrentThreadAllocatedBytes() - was);
    }
}
