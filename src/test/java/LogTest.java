/** Promises 17 and 30: who is deaf by a log, which desk to try, whom to blame. */
public final class LogTest {
    private static final Checks C = new Checks();
    private static final String OFFICE = "ear 4;soft 0 3 5 5;plain 4 2 1 8;fair 6 1 2 2;";

    public static void main(String[] args) {
        fits(Checks.officeAndLog(OFFICE, "lifted 1 2 1;"), 0, 4, 0, 0, 0, 1, 2, 3);
        fits(Checks.officeAndLog(OFFICE, "silent 0;"), 2, 0, 1, 2, 2, 3, 6, 7);
        fits(Checks.officeAndLog(OFFICE, "silent 0;lifted 1 0 3;"), 6, 1, 0, 6, 6);
        fits(Checks.officeAndLog(OFFICE, ""), 0, 0, 0, 0, 0, 1, 2, 3, 4, 5, 6, 7);
        // The ring is another; nobody could.
        fits(Checks.officeAndLog(OFFICE, "lifted 1 2 2;"), -1, -1, -1, -1);
        fits(Checks.officeAndLog(OFFICE, "lifted 0 2 1;"), -1, -1, -1, -1);
        fits(Checks.officeAndLog("", ""), 0, 0, -1, 0, 0);
        // A deaf one as told is but one of those who may be.
        fits(Checks.officeAndLog("deaf 0 3 5 5;deaf 4 2 1 8;", "lifted 0 1 2;"), 0, 2, 1, 0, 0, 1);
        notThere();
        C.finish();
    }

    /** Sure, clear, the desk to try, the set of the fewest, and all sets that fit. */
    private static void fits(DeskRings x, int sure, int clear, int toTry, int fewest, int... sets) {
        C.due("how many", x.fits(0, 0, 0), sets.length);
        C.due("sure", x.fits(0, 0, 1), sure);
        C.due("clear", x.fits(0, 0, 2), clear);
        C.due("try", x.fits(0, 0, 3), toTry);
        for (int k = 0; k < sets.length; k++) {
            C.due("set " + k, x.fits(0, 0, 10 + k), sets[k]);
        }
        C.due("set beyond", x.fits(0, 0, 10 + sets.length), -2);
        C.due("blame, the set", x.blame(0, 0, true), fewest);
        C.due("blame", x.blame(0, 0, false), fewest == -1 ? -1 : Integer.bitCount(fewest));
    }

    private static void notThere() {
        DeskRings x = Checks.officeAndLog(OFFICE, "silent 3;");
        Checks.tell(x, 2, -1, "lifted 0 3 1;");
        for (int log = -1; log < 3; log++) {
            for (int what = -1; what < 12; what++) {
                C.due("fits(0, " + log + ", " + what + ")", x.fits(0, log, what), -2);
            }
            C.due("blame(0, " + log + ", false)", x.blame(0, log, false), -2);
            C.due("blame(0, " + log + ", true)", x.blame(0, log, true), -2);
        }
        x = Checks.officeAndLog(OFFICE, "silent 0;");
        for (int what : new int[] {-1, 4, 9, 14, 300, Integer.MAX_VALUE, Integer.MIN_VALUE}) {
            C.due("fits(0, 0, " + what + ")", x.fits(0, 0, what), -2);
        }
        C.due("fits(1, 0, 0)", x.fits(1, 0, 0), -2);
        C.due("blame(1, 0, true)", x.blame(1, 0, true), -2);
        C.due("blame(-1, 0, true)", x.blame(-1, 0, true), -2);
    }
}
