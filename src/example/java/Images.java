import java.nio.ByteBuffer;

/** Images: all that is told is kept, and comes back. */
public final class Images {
    public static void main(String[] args) {
        DeskRings x = new DeskRings();
        type(x, "ear 4; fade 2; plain 0 3 1 5; soft 4 2 1 8; fair 6 2 2 5; call 0 20 5; call 2 12 1; call 1 9 4;");
        int office = x.text(0, DeskRings.NONE);

        System.out.println(x.image(2)); // true: image 2 is all that is told by now
        type(x, "plain 0 1 0 5;");
        System.out.println(x.text(0, DeskRings.NONE)); // 1: a second office
        System.out.println(x.feed(0, 0, 0, 0, 0)); // 20: and something on the tape
        System.out.println(x.count(0)); // 2: offices
        System.out.println(x.again(2)); // true: as it was
        System.out.println(x.count(0)); // 1: one office
        System.out.println(x.office(office, 0)); // 3: its desks
        System.out.println(x.end(1)); // -1: the tape, too, is as it was: empty
        System.out.println(x.again(0)); // false: there is no image 0
        System.out.println(x.image(3)); // false: images are 0, 1, 2
    }

    /** Puts a text on the empty tape: twenty bytes a call, then what is too much is cut off. */
    static void type(DeskRings x, String text) {
        ByteBuffer bytes = ByteBuffer.allocate((text.length() + 19) / 20 * 20);
        for (char letter : text.toCharArray()) {
            bytes.put((byte) letter);
        }
        bytes.rewind();
        while (bytes.hasRemaining()) {
            x.feed(bytes.getInt(), bytes.getInt(), bytes.getInt(), bytes.getInt(), bytes.getInt());
        }
        x.end(text.length());
    }
}
