import java.nio.ByteBuffer;

/** The game of waiting for each other. */
public final class Waits {
    public static void main(String[] args) {
        DeskRings x = new DeskRings();
        type(x, "ear 4; fade 2; plain 0 3 1 5; soft 4 2 1 8; fair 6 2 2 5; call 0 20 5; call 2 12 1; call 1 9 4;");
        int office = x.text(0, DeskRings.NONE);

        // Desk 1 rings, a call worth 9; ones 0 and 2 play, each says 1, 2, 3 or 0, never.
        System.out.println(x.rest(office, 1, 9, DeskRings.NONE)); // 6: so many rests
        System.out.println(x.rest(office, 1, 9, 0)); // 1: 01 in fours: one 0 says never, one 2 says ring 1
        System.out.println(x.rest(office, 1, 9, 1)); // 4: 10 in fours: one 0 says ring 1, one 2 never
        System.out.println(x.rest(office, 1, 9, -2)); // 1: the least ring at which it is lifted in one of them
        System.out.println(x.rest(office, 1, 0, -2)); // -1: a call worth nothing is lifted in none
        System.out.println(x.rest(office, 1, 100, DeskRings.NONE)); // -1: no call is worth so much
        System.out.println(x.fewer(office, 1, 9, 1)); // 1: the same, if one 0 alone sat there
        System.out.println(x.fewer(office, 1, 9, 0)); // -1: nobody sits there who could
    }

    /** Puts a text on the empty tape: twenty bytes a call, then what is too much is cut off. */
    static void type(DeskRings x, String text) {
        ByteBuffer bytes = ByteBuffer.allocate((text.length() + 19) / 20 * 20);
        for (char letter : text.toCharArray()) {
            bytes.put((byte) letter);
        }
        bytes.rewind();
        while (bytes.hasRemaining()) {
            x.feed(bytes.getInt(), bytes.getInt(), bytes.getInt(), bytes.getInt(), bytes.getInt());
        }
        x.end(text.length());
    }
}
