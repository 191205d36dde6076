import java.nio.ByteBuffer;

/** Places: who hears whom, and where to sit. */
public final class Places {
    public static void main(String[] args) {
        DeskRings x = new DeskRings();
        type(x, "ear 4; fade 2; plain 0 3 1 5; soft 4 2 1 8; fair 6 2 2 5; call 0 20 5; call 2 12 1; call 1 9 4;");
        int office = x.text(0, DeskRings.NONE);

        System.out.println(x.board(office, false)); // 4: the place of the board ...
        System.out.println(x.board(office, true)); // 6: ... and how far off all calls are from it, together
        System.out.println(x.rooms(office, false)); // 1: all are in one room ...
        System.out.println(x.rooms(office, true)); // 3: ... of three
        System.out.println(x.seat(office, 1, false)); // 11: where fewest would hear desk 1 ...
        System.out.println(x.seat(office, 1, true)); // 0: ... namely nobody
        System.out.println(x.quiet(office, 1)); // 6: rings of other desks that one 1 hears
        System.out.println(x.ears(office)); // 4: the least ear by which each desk is heard
        System.out.println(x.passed(office, 0, 2)); // 2: from desk 0 by way of desk 1
        System.out.println(x.loud(office, false)); // 1: the desk that most others hear ...
        System.out.println(x.loud(office, true)); // 2: ... namely two
    }

    /** Puts a text on the empty tape: twenty bytes a call, then what is too much is cut off. */
    static void type(DeskRings x, String text) {
        ByteBuffer bytes = ByteBuffer.allocate((text.length() + 19) / 20 * 20);
        for (char letter : text.toCharArray()) {
            bytes.put((byte) letter);
        }
        bytes.rewind();
        while (bytes.hasRemaining()) {
            x.feed(bytes.getInt(), bytes.getInt(), bytes.getInt(), bytes.getInt(), bytes.getInt());
        }
        x.end(text.length());
    }
}
