import java.nio.ByteBuffer;

/** Logs: who may be deaf, by what was seen. */
public final class Logs {
    public static void main(String[] args) {
        DeskRings x = new DeskRings();
        type(x, "ear 4; fade 2; plain 0 3 1 5; soft 4 2 1 8; fair 6 2 2 5; call 0 20 5; call 2 12 1; call 1 9 4;");
        int office = x.text(0, DeskRings.NONE);
        type(x, "silent 2;");
        int log = x.text(2, DeskRings.NONE);

        // Desk 2 rang, and nobody lifted it: so one 1 is deaf, who alone hears it.
        System.out.println(x.fits(office, log, 0)); // 4: so many sets of deaf ones fit
        System.out.println(x.fits(office, log, 10)); // 2: the first is one 1 alone (bits)
        System.out.println(x.fits(office, log, 11)); // 3: the second is ones 0 and 1
        System.out.println(x.fits(office, log, 14)); // -2: there is no fifth
        System.out.println(x.fits(office, log, 1)); // 2: one 1 is deaf for sure (bits)
        System.out.println(x.fits(office, log, 2)); // 0: nobody is clear
        System.out.println(x.fits(office, log, 3)); // 1: the desk to try
        System.out.println(x.blame(office, log, false)); // 1: one is deaf at least ...
        System.out.println(x.blame(office, log, true)); // 2: ... namely one 1 (bits)

        // It was tried, and one 0 lifted it at ring 3: so one 2, who would have at ring 2, is deaf, too.
        type(x, "silent 2; lifted 1 0 3;");
        System.out.println(x.text(2, log)); // 0: in the place of the log before
        System.out.println(x.fits(office, log, 0)); // 1
        System.out.println(x.fits(office, log, 1)); // 6: ones 1 and 2 are deaf for sure
        System.out.println(x.fits(office, log, 2)); // 1: one 0 is clear

        // One 0 can't have lifted desk 2, which he does not hear.
        type(x, "lifted 2 0 3;");
        System.out.println(x.text(2, log)); // 0
        System.out.println(x.fits(office, log, 0)); // 0: nothing fits
        System.out.println(x.fits(office, log, 1)); // -1: so there is none of these
        System.out.println(x.blame(office, log, true)); // -1
    }

    /** Puts a text on the empty tape: twenty bytes a call, then what is too much is cut off. */
    static void type(DeskRings x, String text) {
        ByteBuffer bytes = ByteBuffer.allocate((text.length() + 19) / 20 * 20);
        for (char letter : text.toCharArray()) {
            bytes.put((byte) letter);
        }
        bytes.rewind();
        while (bytes.hasRemaining()) {
            x.feed(bytes.getInt(), bytes.getInt(), bytes.getInt(), bytes.getInt(), bytes.getInt());
        }
        x.end(text.length());
    }
}
