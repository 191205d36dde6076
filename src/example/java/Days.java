import java.nio.ByteBuffer;

/** Days: how far they go, how the office stands behind each deed, what is left in the end. */
public final class Days {
    public static void main(String[] args) {
        DeskRings x = new DeskRings();
        type(x, "ear 4; fade 2; plain 0 3 1 5; soft 4 2 1 8; fair 6 2 2 5; call 0 20 5; call 2 12 1; call 1 9 4;");
        int office = x.text(0, DeskRings.NONE);
        type(x, "away 2; ring 1; away 0; ring 0; ring 1; back 0; read 0; ring 2; read 0;");
        int day = x.text(1, DeskRings.NONE);

        System.out.println(x.stop(office, day)); // 8: deed 8 can't be, as no slip lies on desk 0
        // The state behind the first four deeds.
        System.out.println(x.state(office, day, 4, 0)); // 2: one 1 alone is there (bits)
        System.out.println(x.state(office, day, 4, 1)); // 1: call 0 was answered (bits)
        System.out.println(x.state(office, day, 4, 4)); // 18: got, 20 less 2, as one 1 lifted at ring 2 ...
        System.out.println(x.state(office, day, 4, 5)); // 1: ... which cost him 1
        System.out.println(x.state(office, day, 4, 10 + 1)); // 1: one 1 helped once
        System.out.println(x.state(office, day, 4, 20)); // 1: a slip lies on desk 0
        System.out.println(x.state(office, day, 4, 2)); // 1: the caller of deed 1 is gone
        System.out.println(x.state(office, day, 4, 3)); // 0: no machine took a call
        System.out.println(x.state(office, day, 4, 6)); // 0: and nobody clashed
        // Behind more deeds.
        System.out.println(x.state(office, day, 5, 4)); // 30: one 1, who is soft, lifted call 1 now, at ring 1
        System.out.println(x.state(office, day, 7, 30)); // 1: one 0 has read his slip
        System.out.println(x.state(office, day, 9, 0)); // -2: there is no such state
        // In the end.
        System.out.println(x.after(office, day, 0)); // 1: who helped most
        System.out.println(x.after(office, day, 1)); // 5: behind five deeds half of all was got
        System.out.println(x.after(office, day, 2)); // 4: a slip lies on desk 2 (bits)
        // Sixty deeds drawn by a seed, each done if it may be: what as in state().
        System.out.println(x.drawn(office, 2026, 60, 4)); // 41: got
        System.out.println(x.drawn(office, 2026, 61, 4)); // -2: sixty at most
    }

    /** Puts a text on the empty tape: twenty bytes a call, then what is too much is cut off. */
    static void type(DeskRings x, String text) {
        ByteBuffer bytes = ByteBuffer.allocate((text.length() + 19) / 20 * 20);
        for (char letter : text.toCharArray()) {
            bytes.put((byte) letter);
        }
        bytes.rewind();
        while (bytes.hasRemaining()) {
            x.feed(bytes.getInt(), bytes.getInt(), bytes.getInt(), bytes.getInt(), bytes.getInt());
        }
        x.end(text.length());
    }
}
