import java.nio.charset.StandardCharsets;

/** Compares answers with those that are due, and tells texts to an object. */
final class Checks {
    private int wrong;
    private int made;

    void due(String call, long got, long want) {
        made++;
        if (got != want) {
            wrong++;
            if (wrong <= 40) {
                System.out.println(call + " answered " + got + ", due is " + want);
            }
        }
    }

    void due(String call, boolean got, boolean want) {
        due(call, got ? 1 : 0, want ? 1 : 0);
    }

    void due(String what, String got, String want) {
        made++;
        if (!got.equals(want)) {
            wrong++;
            System.out.println(what + "; it was:\n" + got + "due is:\n" + want);
        }
    }

    /** Puts a text on the tape, which must be empty, byte by byte. */
    static void type(DeskRings x, String text) {
        byte[] bytes = text.getBytes(StandardCharsets.ISO_8859_1);
        int[] numbers = new int[(bytes.length + 19) / 20 * 5];
        for (int i = 0; i < bytes.length; i++) {
            numbers[i / 4] |= (bytes[i] & 255) << 24 - i % 4 * 8;
        }
        for (int i = 0; i < numbers.length; i += 5) {
            x.feed(numbers[i], numbers[i + 1], numbers[i + 2], numbers[i + 3], numbers[i + 4]);
        }
        if (x.end(bytes.length) != bytes.length) {
            throw new IllegalStateException("the tape did not take: " + text);
        }
    }

    static int tell(DeskRings x, int sort, int at, String text) {
        type(x, text);
        return x.text(sort, at);
    }

    static DeskRings office(String text) {
        DeskRings x = new DeskRings();
        if (tell(x, 0, DeskRings.NONE, text) != 0) {
            throw new IllegalStateException("fault " + x.fault(0) + " at " + x.fault(1) + ": " + text);
        }
        return x;
    }

    static DeskRings officeAndDay(String office, String day) {
        DeskRings x = office(office);
        if (tell(x, 1, DeskRings.NONE, day) != 0) {
            throw new IllegalStateException("fault " + x.fault(0) + " at " + x.fault(1) + ": " + day);
        }
        return x;
    }

    static DeskRings officeAndLog(String office, String log) {
        DeskRings x = office(office);
        if (tell(x, 2, DeskRings.NONE, log) != 0) {
            throw new IllegalStateException("fault " + x.fault(0) + " at " + x.fault(1) + ": " + log);
        }
        return x;
    }

    /** A text of a sort must have a fault (0: none) at a place. */
    void fault(int sort, String text, int fault, int place) {
        DeskRings x = new DeskRings();
        due("text of sort " + sort + " '" + text + "'", tell(x, sort, DeskRings.NONE, text), fault == 0 ? 0 : -1);
        due("fault(0) of '" + text + "'", x.fault(0), fault);
        due("fault(1) of '" + text + "'", x.fault(1), place);
        due("count of '" + text + "'", x.count(sort), fault == 0 ? 1 : 0);
        due("tape behind '" + text + "'", x.end(1), -1);
    }

    void finish() {
        if (wrong > 0) {
            System.out.println(wrong + " of " + made + " answers are not as due");
            System.exit(1);
        }
        if (made == 0) {
            System.out.println("nothing was asked");
            System.exit(1);
        }
        System.out.println(made + " answers are as due");
    }
}
