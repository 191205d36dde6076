import java.lang.management.ManagementFactory;
import java.lang.reflect.Field;
import java.lang.reflect.InvocationTargetException;
import java.lang.reflect.Method;
import java.lang.reflect.Modifier;
import java.util.Arrays;
import java.util.Comparator;
import java.util.IdentityHashMap;
import java.util.Map;
import java.util.Random;

/** No call throws, whatever its arguments; all rows are made with the object, so that 512 calls make no more. */
public final class RoomTest {
    private static final Checks C = new Checks();
    private static final Random R = new Random(512);
    private static final int[] EDGES = {-2, -1, 0, 1, 2, 3, 4, 5, 7, 8, 9, 10, 12, 20, 21, 60, 61, 99, 100, 255, 511, 512,
        Integer.MAX_VALUE, Integer.MIN_VALUE};
    private static final String[] TEXTS = {"", "ear 4;", "plain 3 2 1 5;soft 8 2 1 5;near 0 1 2 3;call 0 9 9;call 2 9 9;",
        "near 1 1 1 1;".repeat(8) + "call 7 9 9;".repeat(10), "ring 0;away 1;back 1;ring 1;", "ring 9;", "silent 0;",
        "lifted 0 1 2;", "lifted 7 6 12;", "plain 1 1 1 1;machine 3;fade 0;fair 2 2 2 2;call 1 50 3;", "oh", "ear 1"};

    public static void main(String[] args) throws IllegalAccessException {
        Method[] face = Arrays.stream(DeskRings.class.getDeclaredMethods())
                .filter(m -> Modifier.isPublic(m.getModifiers()))
                .sorted(Comparator.comparing(Method::getName)).toArray(Method[]::new);
        for (int round = 0; round < 150; round++) {
            anyCalls(face);
        }
        room();
        C.finish();
    }

    private static void anyCalls(Method[] face) throws IllegalAccessException {
        DeskRings x = new DeskRings();
        for (int i = 0; i < 512; i++) {
            if (R.nextInt(12) == 0) {
                x.end(0);
                Checks.tell(x, R.nextInt(3), R.nextInt(3) - 1, TEXTS[R.nextInt(TEXTS.length)]);
                continue;
            }
            Method m = face[R.nextInt(face.length)];
            Object[] arguments = new Object[m.getParameterCount()];
            for (int k = 0; k < arguments.length; k++) {
                int number = R.nextInt(3) == 0 ? R.nextInt(70) : EDGES[R.nextInt(EDGES.length)];
                boolean isOffice = k == 0 && R.nextInt(4) > 0;
                arguments[k] = m.getParameterTypes()[k] == boolean.class ? (Object) R.nextBoolean()
                        : (Object) (isOffice ? R.nextInt(2) : number);
            }
            boolean answered = true;
            try {
                m.invoke(x, arguments);
            } catch (InvocationTargetException thrown) {
                answered = false;
            }
            C.due(m.getName() + Arrays.toString(arguments) + " answers", answered, true);
        }
    }

    private static void room() throws IllegalAccessException {
        DeskRings x = Checks.office("near 1 1 1 1;".repeat(4) + "soft 2 2 2 2;".repeat(4) + "call 7 9 9;".repeat(10));
        Checks.tell(x, 1, -1, "away 0;ring 1;");
        Checks.tell(x, 2, -1, "silent 0;");
        long[] before = size(x);
        dearCalls(x);
        var threads = (com.sun.management.ThreadMXBean) ManagementFactory.getThreadMXBean();
        long bytes = threads.getCurrentThreadAllocatedBytes();
        dearCalls(x);
        long made = threads.getCurrentThreadAllocatedBytes() - bytes;
        C.due("bytes that calls make: " + made, made < 2000, true);
        long[] after = size(x);
        C.due("objects kept: " + after[0] + ", were " + before[0], after[0] <= before[0], true);
        C.due("elements kept: " + after[1] + ", were " + before[1], after[1] <= before[1], true);
        C.due("objects: " + before[0] + ", at most 300", before[0] <= 300, true);
        C.due("elements: " + before[1] + ", at most 10000", before[1] <= 10000, true);
    }

    private static void dearCalls(DeskRings x) {
        x.feed(0, 0, 0, 0, 0);
        x.text(0, 1);
        x.end(0);
        x.state(0, 0, 2, 4);
        x.enough(0);
        x.odds(0, 0, true);
        x.mean(0, 0, true);
        x.rest(0, 0, 9, -1);
        x.rest(0, 0, 9, -2);
        x.button(0, 0);
        x.fits(0, 0, 3);
        x.drawn(0, 5, 60, 4);
        x.lunch(0, 4, true);
        x.rule(0, 3, 2);
        x.rooms(0, true);
        x.given(0, 9);
        x.order(0, 5, 4);
        x.after(0, 0, 1);
        x.blame(0, 0, true);
        x.duty(0, 20, 19);
        x.passed(0, 0, 7);
        x.empty(0, 4, true);
        x.best(0);
        x.fewer(0, 0, 9, 8);
        x.image(0);
        x.image(1);
        x.image(2);
        x.again(1);
    }

    /** How many objects and arrays hang on one, and how many fields and elements they have. */
    private static long[] size(Object root) throws IllegalAccessException {
        Map<Object, Boolean> seen = new IdentityHashMap<>();
        long elements = count(root, seen);
        return new long[] {seen.size(), elements};
    }

    private static long count(Object o, Map<Object, Boolean> seen) throws IllegalAccessException {
        if (o == null || seen.put(o, true) != null) {
            return 0;
        }
        long sum = 0;
        if (o.getClass().isArray()) {
            int length = java.lang.reflect.Array.getLength(o);
            sum += length;
            for (int i = 0; !o.getClass().getComponentType().isPrimitive() && i < length; i++) {
                sum += count(java.lang.reflect.Array.get(o, i), seen);
            }
            return sum;
        }
        for (Field f : o.getClass().getDeclaredFields()) {
            if (!Modifier.isStatic(f.getModifiers())) {
                f.setAccessible(true);
                sum += 1 + (f.getType().isPrimitive() ? 0 : count(f.get(o), seen));
            }
        }
        return sum;
    }
}
