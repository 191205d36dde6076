import java.nio.ByteBuffer;

/** Who lifts, how likely, what it brings in the mean, how a call goes round by a button. */
public final class Lifts {
    public static void main(String[] args) {
        DeskRings x = new DeskRings();
        type(x, "ear 4; fade 2; plain 0 3 1 5; soft 4 2 1 8; fair 6 2 2 5; call 0 20 5; call 2 12 1; call 1 9 4;");
        int office = x.text(0, DeskRings.NONE);

        // Desk 0 rings; ones 1 and 2 are there (bits 2 + 4), but one 2 does not hear it.
        System.out.println(x.who(office, 0, 6, false)); // 1: one 1 lifts ...
        System.out.println(x.who(office, 0, 6, true)); // 2: ... at ring 2
        System.out.println(x.who(office, 0, 4, false)); // -1: nobody
        System.out.println(x.tied(office, 1)); // 4: one 2 lifts desk 1 first, if its own one is away (bits)
        System.out.println(x.enough(office)); // 2: one 1 alone is enough for all desks (bits)

        // Fractions: over, and (true) under.
        System.out.println(x.odds(office, 0, false)); // 9
        System.out.println(x.odds(office, 0, true)); // 10: call 0 is answered 9 times of 10
        System.out.println(x.mean(office, 0, false)); // 86
        System.out.println(x.mean(office, 0, true)); // 5: it brings 86 / 5 in the mean
        System.out.println(x.empty(office, 0, false)); // 1
        System.out.println(x.empty(office, 0, true)); // 20: nobody at all is there one time of 20

        // The button: the desks in their order, and the mean of those that are tried.
        System.out.println(x.button(office, 0)); // 1: desk 1 comes first
        System.out.println(x.button(office, 1)); // 0
        System.out.println(x.button(office, 2)); // 2
        System.out.println(x.button(office, DeskRings.NONE)); // 13
        System.out.println(x.button(office, -2)); // 10: 13 / 10 desks are tried in the mean
    }

    /** Puts a text on the empty tape: twenty bytes a call, then what is too much is cut off. */
    static void type(DeskRings x, String text) {
        ByteBuffer bytes = ByteBuffer.allocate((text.length() + 19) / 20 * 20);
        for (char letter : text.toCharArray()) {
            bytes.put((byte) letter);
        }
        bytes.rewind();
        while (bytes.hasRemaining()) {
            x.feed(bytes.getInt(), bytes.getInt(), bytes.getInt(), bytes.getInt(), bytes.getInt());
        }
        x.end(text.length());
    }
}
