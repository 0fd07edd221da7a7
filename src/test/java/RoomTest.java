import java.lang.management.ManagementFactory;
import java.lang.reflect.InvocationTargetException;
import java.lang.reflect.Method;
import java.lang.reflect.Modifier;
import java.util.ArrayList;
import java.util.Comparator;
import java.util.List;
import java.util.Random;

/** Wild arguments in wild states: no call throws, and a run of dear calls stays well within its room. */
final class RoomTest {
    private static final int RUNS = 1800, CALLS = 400;
    private static final int[] WILD = {Integer.MIN_VALUE, Integer.MIN_VALUE + 1, -2000000000, -1000, -100, -10, -3, -2, -1,
        99, 100, 120, 255, 256, 999, 1000, 304012, 1 << 30, Integer.MAX_VALUE - 1, Integer.MAX_VALUE};
    private static final long MOST_BYTES = 730000 * 4;
    private static final Due due = new Due("RoomTest");

    public static void main(String[] args) throws ReflectiveOperationException {
        List<Method> face = face();
        int thrown = 0;
        for (int seed = 0; seed < RUNS; seed++) {
            thrown += wildRun(new Random(seed), face);
        }
        due.is("calls that threw", thrown, 0);
        madeByCalls();
        due.end();
    }

    private static List<Method> face() {
        List<Method> face = new ArrayList<>();
        for (Method m : RoadsThanked.class.getDeclaredMethods()) {
            if (Modifier.isPublic(m.getModifiers())) {
                face.add(m);
            }
        }
        face.sort(Comparator.comparing(Method::getName));
        return face;
    }

    private static int wildRun(Random random, List<Method> face) throws ReflectiveOperationException {
        RoadsThanked x = new RoadsThanked();
        for (int i = random.nextInt(25); i > 0; i--) {
            x.road(random.nextInt(78), 1 + random.nextInt(99));
            x.mend(random.nextInt(12), random.nextInt(6), random.nextInt(14) - 2);
            x.traveller(random.nextInt(8));
            x.row(random.nextInt(6), random.nextInt(2), random.nextInt(61));
        }
        for (int call = 0; call < CALLS; call++) {
            Method m = face.get(random.nextInt(face.size()));
            Object[] told = new Object[m.getParameterCount()];
            for (int i = 0; i < told.length; i++) {
                told[i] = m.getParameterTypes()[i] == long.class ? (Object) random.nextLong() : (Object) number(random, m.getName());
            }
            try {
                m.invoke(x, told);
            } catch (InvocationTargetException e) {
                System.out.println("RoomTest: " + m.getName() + java.util.Arrays.toString(told) + " threw " + e.getCause());
                return 1;
            }
        }
        return 0;
    }

    private static int number(Random random, String call) {
        if (call.equals("feed") && random.nextInt(10) > 0) {
            return "lmjnrk0123456789|&<=>+-*/%()!-?;".charAt(random.nextInt(32));
        }
        switch (random.nextInt(8)) {
            case 0: return random.nextInt();
            case 1: return WILD[random.nextInt(WILD.length)];
            case 2: return random.nextInt(256);
            default: return random.nextInt(14) - 1;
        }
    }

    /** All calls of one run have room for some 600,000 objects, and 7.3 million fields and elements in all. */
    private static void madeByCalls() {
        com.sun.management.ThreadMXBean room = (com.sun.management.ThreadMXBean) ManagementFactory.getThreadMXBean();
        long made = Long.MAX_VALUE;
        for (int tries = 0; tries < 5; tries++) {
            long before = room.getCurrentThreadAllocatedBytes();
            manyCalls(Due.fullNet());
            made = Math.min(made, room.getCurrentThreadAllocatedBytes() - before);
        }
        due.is("bytes that a run made, above a tenth of the room", Math.max(MOST_BYTES, made), MOST_BYTES);
    }

    private static void manyCalls(RoadsThanked x) {
        x.traveller(0);
        x.row(0, 0, 60);
        x.row(1, 1, 12);
        x.body(7);
        x.keep(2, 0);
        x.feed('l');
        x.law();
        for (int i = 0; i < 15; i++) {
            x.roads(0, 0, 3);
            x.mend(i % 12, 1, i % 10);
            x.mend(i % 12, 2, (i + 1) % 12);
            x.of(0, 0);
            x.hours(-1);
            x.way(1, -2);
            x.reach(0, 9, 0);
            x.needed(1);
            x.longer(1, 0);
            x.trip(0, 0, 0);
            x.round(0, 62, 0);
            x.least(1, 1, 0);
            x.best(0);
            x.peace(1);
            x.ring(0, 0);
            x.judge(1);
            x.sunday(1, i % 3);
            x.byTurns(1, 2, 0);
            x.drawn(i, 304006, -1);
            x.goes(0, i % 12, 1);
            x.night();
            x.image();
            x.back();
            x.undo();
            x.redo();
            x.act(0, 3, i);
            x.put(0, 3, i);
            x.element(0, 3);
            x.shift(0, 0, 0, 5, 9);
            x.taken(2, 0);
        }
    }
}
