import java.nio.ByteBuffer;

/** How an object is made, how texts are told to it, and how what was told is read back. */
public final class Telling {
    public static void main(String[] args) {
        DeskRings x = new DeskRings();
        System.out.println(x.count(0)); // 0: no office yet

        // "plain 0 1 0 5;" by hand: twenty bytes a call, four a number, the highest first; the rest is cut off.
        System.out.println(x.feed(0x706c6169, 0x6e203020, 0x31203020, 0x353b0000, 0)); // 20: bytes on the tape
        System.out.println(x.end(14)); // 14: its first 14 bytes stay
        System.out.println(x.text(0, DeskRings.NONE)); // 0: read as a further office, whose number is 0
        System.out.println(x.fault(0)); // 0: no fault
        System.out.println(x.fault(1)); // -1: so it has no place

        // Texts of all three sorts, by the helper below.
        type(x, "ear 4; fade 2; soft 3 2 1 8; deaf 7 5 0 10; call 1 20 6;");
        System.out.println(x.text(0, DeskRings.NONE)); // 1: the second office
        type(x, "away 1; ring 0; back 1; read 1;");
        System.out.println(x.text(1, DeskRings.NONE)); // 0: the first day
        type(x, "lifted 1 0 2; silent 0;");
        System.out.println(x.text(2, DeskRings.NONE)); // 0: the first log
        System.out.println(x.count(0)); // 2: offices

        // Read back: desks, the kind of the one at desk 1, his place, the worth of call 0.
        System.out.println(x.office(1, 0)); // 2
        System.out.println(x.office(1, 10 + 1)); // 2: deaf
        System.out.println(x.office(1, 20 + 1)); // 7
        System.out.println(x.office(1, 70)); // 20
        System.out.println(x.deed(0, DeskRings.NONE, 0)); // 4: deeds
        System.out.println(x.deed(0, 3, 0)); // 3: the last one is a read ...
        System.out.println(x.deed(0, 3, 1)); // 1: ... at desk 1
        System.out.println(x.fact(0, 0, 3)); // 2: the first fact was lifted at ring 2
        System.out.println(x.fact(0, 1, 2)); // -1: nobody lifted in the second one

        // A fault: nothing comes of the text, and fault() says what is wrong, and at which byte.
        type(x, "plain 0 1 0 5; plain 31 1 0 5;");
        System.out.println(x.text(0, 0)); // -1
        System.out.println(x.fault(0)); // 2: a number that can't be
        System.out.println(x.fault(1)); // 21: the 31
        System.out.println(x.office(0, 0)); // 1: office 0 is as before

        // In the place of office 0; but a third office, one in the place of office 5, a sort 3 can't be.
        type(x, "near 9 1 0 5;");
        System.out.println(x.text(0, 0)); // 0
        System.out.println(x.office(0, 10)); // 4: near
        System.out.println(x.text(0, DeskRings.NONE)); // -2
        System.out.println(x.text(0, 5)); // -2
        System.out.println(x.text(3, DeskRings.NONE)); // -2
        System.out.println(x.fault(0)); // 0: no text was read
    }

    /** Puts a text on the empty tape: twenty bytes a call, then what is too much is cut off. */
    static void type(DeskRings x, String text) {
        ByteBuffer bytes = ByteBuffer.allocate((text.length() + 19) / 20 * 20);
        for (char letter : text.toCharArray()) {
            bytes.put((byte) letter);
        }
        bytes.rewind();
        while (bytes.hasRemaining()) {
            x.feed(bytes.getInt(), bytes.getInt(), bytes.getInt(), bytes.getInt(), bytes.getInt());
        }
        x.end(text.length());
    }
}
