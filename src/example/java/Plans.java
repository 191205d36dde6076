import java.nio.ByteBuffer;

/** Plans: lunch, rules, gifts, orders, duty. */
public final class Plans {
    public static void main(String[] args) {
        DeskRings x = new DeskRings();
        type(x, "ear 4; fade 2; plain 0 3 1 5; soft 4 2 1 8; fair 6 2 2 5; call 0 20 5; call 2 12 1; call 1 9 4;");
        int office = x.text(0, DeskRings.NONE);

        System.out.println(x.lunch(office, 1, false)); // 39: got at most, if one is away ...
        System.out.println(x.lunch(office, 1, true)); // 1: ... which is one 0 (bits)

        // Rule 0 is as told, rule 3 by turns.
        System.out.println(x.rule(office, 0, 0)); // 37: got
        System.out.println(x.rule(office, 0, 1)); // 4: paid
        System.out.println(x.rule(office, 0, 2)); // 2: one helped twice, others less
        System.out.println(x.rule(office, 0, 3)); // 0: no call was not answered
        System.out.println(x.rule(office, 3, 0)); // 41: got by turns
        System.out.println(x.best(office)); // 3: the rule by which got less paid is greatest

        System.out.println(x.given(office, DeskRings.NONE)); // 41: all calls are given
        System.out.println(x.given(office, 0)); // 0: call 0 to one 0
        System.out.println(x.given(office, 1)); // 1: call 1 to one 1, who hears desk 2
        System.out.println(x.curve(office, 3)); // 29: got, if all calls are lifted at ring 3
        System.out.println(x.order(office, 3, DeskRings.NONE)); // 37: got of three calls in the best order ...
        System.out.println(x.order(office, 3, 0)); // 0: ... which begins with call 0
        System.out.println(x.duty(office, 3, DeskRings.NONE)); // 3: costs of three days of duty
        System.out.println(x.duty(office, 3, 1)); // 1: one 1 is on duty on day 1
    }

    /** Puts a text on the empty tape: twenty bytes a call, then what is too much is cut off. */
    static void type(DeskRings x, String text) {
        ByteBuffer bytes = ByteBuffer.allocate((text.length() + 19) / 20 * 20);
        for (char letter : text.toCharArray()) {
            bytes.put((byte) letter);
        }
        bytes.rewind();
        while (bytes.hasRemaining()) {
            x.feed(bytes.getInt(), bytes.getInt(), bytes.getInt(), bytes.getInt(), bytes.getInt());
        }
        x.end(text.length());
    }
}
