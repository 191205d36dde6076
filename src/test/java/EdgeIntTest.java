import java.lang.reflect.InvocationTargetException;
import java.lang.reflect.Method;
import java.util.ArrayList;
import java.util.Arrays;
import java.util.List;

/**
 * The least, the greatest and other far-off ints as each argument of each call: refused as the document says, and
 * all that is told stays as it was. Calls that answer change nothing of it, either.
 */
public final class EdgeIntTest {
    private static final Checks C = new Checks();
    private static final int LEAST = Integer.MIN_VALUE;
    private static final int MOST = Integer.MAX_VALUE;
    /** Far off all that is asked here; some are near to it if cut to a byte, to two bytes, or doubled. */
    private static final int[] FAR = {LEAST, LEAST + 1, LEAST + 2, LEAST / 2, -65536, -65535, -256, -255, -3, 256, 257, 1024,
        65536, 65537, 1 << 24, 1 << 30, (1 << 30) + 1, MOST / 2, MOST - 2, MOST - 1, MOST};
    /** Calls that answer; a far-off int in the place of any of their ints is refused by this answer. */
    private static final Object[][] CALLS = {
        {"end", -1, 0}, {"fault", -1, 0}, {"office", -1, 0, 0}, {"deed", -2, 0, 0, 0}, {"stop", -1, 0, 0},
        {"state", -2, 0, 0, 0, 0}, {"who", -1, 0, 0, 1, false}, {"who", -1, 0, 0, 6, true}, {"enough", -1, 0},
        {"odds", -1, 0, 0, false}, {"odds", -1, 0, 0, true}, {"mean", -1, 0, 0, false}, {"mean", -1, 0, 0, true},
        {"rest", -1, 0, 0, 9, 0}, {"button", -1, 0, 0}, {"fact", -2, 0, 0, 0}, {"fits", -2, 0, 0, 0},
        {"lunch", -1, 0, 0, false}, {"lunch", -1, 0, 0, true}, {"rule", -1, 0, 0, 0}, {"board", -1, 0, false},
        {"board", -1, 0, true}, {"rooms", -1, 0, false}, {"rooms", -1, 0, true}, {"seat", -1, 0, 0, false},
        {"seat", -1, 0, 0, true}, {"quiet", -1, 0, 0}, {"given", -1, 0, 0}, {"curve", -1, 0, 1}, {"ears", -1, 0},
        {"order", -1, 0, 1, 0}, {"after", -2, 0, 0, 0}, {"blame", -2, 0, 0, false}, {"blame", -2, 0, 0, true},
        {"duty", -1, 0, 1, 0}, {"passed", -1, 0, 0, 0}, {"tied", -1, 0, 0}, {"empty", -1, 0, 0, false},
        {"empty", -1, 0, 0, true}, {"best", -1, 0}, {"fewer", -1, 0, 0, 9, 1}, {"loud", -1, 0, false}, {"loud", -1, 0, true},
        {"count", -2, 0}, {"image", 0, 0}, {"again", 0, 0}};

    public static void main(String[] args) throws IllegalAccessException {
        List<Long> before = told(start());
        C.due("all that is told is asked for", before.size() > 200, true);
        for (Object[] row : CALLS) {
            Object[] arguments = Arrays.copyOfRange(row, 2, row.length);
            long refused = (Integer) row[1];
            C.due(row[0] + Arrays.toString(arguments) + " is answered", ask(start(), row[0], arguments) != refused, true);
            for (int at = 0; at < arguments.length; at++) {
                if (arguments[at] instanceof Integer) {
                    farOff((String) row[0], arguments, at, refused, before);
                }
            }
        }
        drawn(before);
        asking(before);
        C.finish();
    }

    /** Two of each sort, a fault, a text on the tape that was not taken yet, and images 0 and 2. */
    private static DeskRings start() {
        DeskRings x = new DeskRings();
        x.image(2);
        Checks.tell(x, 0, -1, "soft 0 3 5 5;plain 4 2 1 8;fair 6 1 2 2;call 0 20 3;call 2 10 1;call 1 8 9;ear 4;fade 3;");
        Checks.tell(x, 0, -1, "near 30 12 20 10;machine 4;call 0 1 2;");
        Checks.tell(x, 1, -1, "away 0;ring 0;away 2;ring 1;");
        x.image(0);
        Checks.tell(x, 1, -1, "away 0;back 0;");
        Checks.tell(x, 2, -1, "lifted 1 2 1;");
        Checks.tell(x, 2, -1, "silent 1;silent 0;");
        Checks.tell(x, 2, 0, "silent 5;silent 8;");
        Checks.type(x, "machine 13;");
        return x;
    }

    /** All that is told, as far as calls tell it; the tape and the images, which change all, last. */
    private static List<Long> told(DeskRings x) {
        List<Long> all = new ArrayList<>();
        ask(all, x);
        all.add((long) x.feed(0x20202020, 0x20202020, 0x20202020, 0x20202020, 0x20202020));
        all.add((long) x.text(0, 1));
        all.add((long) x.office(1, 3));
        for (int k = 0; k < 3; k++) {
            all.add(x.again(k) ? 1L : 0L);
            all.add((long) x.count(2));
            for (int n = 0; n < 2; n++) {
                all.add((long) x.count(n));
                all.add((long) x.office(n, 0));
                all.add((long) x.deed(n, -1, 0));
                all.add((long) x.fact(n, -1, 0));
            }
            all.add((long) x.fault(0));
            all.add((long) x.end(1));
        }
        return all;
    }

    private static void ask(List<Long> all, DeskRings x) {
        all.add((long) x.fault(0));
        all.add((long) x.fault(1));
        for (int sort = 0; sort < 3; sort++) {
            all.add((long) x.count(sort));
        }
        for (int n = 0; n < 2; n++) {
            for (int what = 0; what < 90; what++) {
                all.add((long) x.office(n, what));
            }
            for (int k = -1; k < 5; k++) {
                all.add((long) x.deed(n, k, 0));
                all.add((long) x.deed(n, k, 1));
            }
            for (int k = -1; k < 3; k++) {
                for (int what = 0; what < 4; what++) {
                    all.add((long) x.fact(n, k, what));
                }
            }
        }
    }

    private static long ask(DeskRings x, Object name, Object[] arguments) throws IllegalAccessException {
        for (Method m : DeskRings.class.getDeclaredMethods()) {
            if (m.getName().equals(name)) {
                try {
                    Object answer = m.invoke(x, arguments);
                    return answer instanceof Boolean ? ((Boolean) answer ? 1 : 0) : ((Number) answer).longValue();
                } catch (InvocationTargetException thrown) {
                    throw new IllegalStateException(name + Arrays.toString(arguments), thrown);
                }
            }
        }
        throw new IllegalStateException("no " + name);
    }

    private static void farOff(String name, Object[] arguments, int at, long refused, List<Long> before)
            throws IllegalAccessException {
        for (int far : FAR) {
            Object[] asked = arguments.clone();
            asked[at] = far;
            DeskRings x = start();
            C.due(name + Arrays.toString(asked), ask(x, name, asked), refused);
            C.due("all is as told behind " + name + Arrays.toString(asked), told(x).equals(before), true);
        }
    }

    /** Any int is a seed; the other arguments are refused. */
    private static void drawn(List<Long> before) throws IllegalAccessException {
        for (int far : FAR) {
            DeskRings x = start();
            C.due("seed " + far, x.drawn(0, far, 60, 0) >= 0, true);
            C.due("all is as told behind seed " + far, told(x).equals(before), true);
        }
        for (int at : new int[] {0, 2, 3}) {
            farOff("drawn", new Object[] {0, 7, 5, 4}, at, -2, before);
        }
    }

    /** All calls that answer, one behind the other: but for the tape's end and images they change nothing. */
    private static void asking(List<Long> before) throws IllegalAccessException {
        DeskRings x = start();
        for (Object[] row : CALLS) {
            if (!List.of("end", "image", "again").contains(row[0])) {
                ask(x, row[0], Arrays.copyOfRange(row, 2, row.length));
            }
        }
        x.drawn(0, 5, 60, 4);
        x.state(0, 0, 4, 4);
        x.fits(1, 1, 3);
        C.due("all is as told", told(x).equals(before), true);
    }
}
