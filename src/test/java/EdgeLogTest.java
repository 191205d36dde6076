/** Promises 17 and 30 at their edges: no facts, no desks, all sets, none, a desk or one who is not there. */
public final class EdgeLogTest {
    private static final Checks C = new Checks();
    private static final int LEAST = Integer.MIN_VALUE;
    private static final int MOST = Integer.MAX_VALUE;
    private static final int[] NOT_THERE = {-1, -2, 1, 2, LEAST, MOST};

    public static void main(String[] args) {
        promise17NoFacts();
        promise17NothingFits();
        promise17RingsAndKinds();
        promise17SureAndClear();
        promise17Try();
        promise17FullLog();
        promise17NotThere();
        promise17AnotherWhat();
        promise17And30NoSuch();
        promise30Fewest();
        C.finish();
    }

    /** How many, SURE, CLEAR, TRY, how many to blame, and who. */
    private static void log(String office, String log, int... want) {
        DeskRings x = Checks.officeAndLog(office, log);
        String of = " of '" + log + "' in '" + office + "'";
        C.due("how many" + of, x.fits(0, 0, 0), want[0]);
        C.due("SURE" + of, x.fits(0, 0, 1), want[1]);
        C.due("CLEAR" + of, x.fits(0, 0, 2), want[2]);
        C.due("TRY" + of, x.fits(0, 0, 3), want[3]);
        C.due("BLAME" + of, x.blame(0, 0, false), want[4]);
        C.due("whom to BLAME" + of, x.blame(0, 0, true), want[5]);
        C.due("beyond the last" + of, x.fits(0, 0, 10 + Math.max(0, want[0])), -2);
    }

    private static void sets(String office, String log, int... want) {
        DeskRings x = Checks.officeAndLog(office, log);
        C.due("how many", x.fits(0, 0, 0), want.length);
        for (int k = 0; k < want.length; k++) {
            C.due("set " + k + " of '" + log + "' in '" + office + "'", x.fits(0, 0, 10 + k), want[k]);
        }
        C.due("beyond the last", x.fits(0, 0, 10 + want.length), -2);
    }

    /** Without facts every set FITS; without desks there is the empty one alone, and nothing to TRY. */
    private static void promise17NoFacts() {
        log("", "", 1, 0, 0, -1, 0, 0);
        sets("", "", 0);
        sets("plain 0 1 0 0;", "", 0, 1);
        for (int desks = 1; desks <= 8; desks++) {
            String office = "plain 0 1 0 0;".repeat(desks);
            log(office, "", 1 << desks, 0, 0, 0, 0, 0);
            DeskRings x = Checks.officeAndLog(office, "");
            for (int k = 0; k < 1 << desks; k += desks) {
                C.due("set " + k, x.fits(0, 0, 10 + k), k);
            }
            C.due("the last set", x.fits(0, 0, 9 + (1 << desks)), (1 << desks) - 1);
            C.due("beyond it", x.fits(0, 0, 10 + (1 << desks)), -2);
        }
    }

    private static void promise17NothingFits() {
        String two = "plain 0 5 0 0;plain 0 5 0 0;";
        for (String log : new String[] {"silent 0;lifted 0 1 5;", "lifted 0 1 4;", "lifted 0 1 6;"}) {
            log(two, log, 0, -1, -1, -1, -1, -1);
            DeskRings x = Checks.officeAndLog(two, log);
            for (int what : new int[] {-1, 4, 9, 10, 11, 265, LEAST, MOST}) {
                C.due("fits(0, 0, " + what + ") where nothing fits", x.fits(0, 0, what), -2);
            }
        }
        // He does not hear it.
        log("plain 0 5 0 0;plain 11 5 0 0;", "lifted 0 1 5;", 0, -1, -1, -1, -1, -1);
        log("plain 0 5 0 0;plain 10 5 0 0;", "lifted 0 1 5;", 2, 0, 2, 1, 0, 0);
    }

    /** "all others being PLAIN", whatever they are told to be: at RINGS. */
    private static void promise17RingsAndKinds() {
        for (String kind : new String[] {"plain", "soft", "deaf", "fair", "near"}) {
            for (int rings : new int[] {1, 2, 11, 12}) {
                for (int ring = 1; ring <= 12; ring++) {
                    DeskRings x = Checks.officeAndLog("plain 0 5 0 0;" + kind + " 0 " + rings + " 0 0;",
                            "lifted 0 1 " + ring + ";");
                    C.due(kind + " at ring " + ring, x.fits(0, 0, 0), ring == rings ? 2 : 0);
                }
            }
            sets("plain 0 5 0 0;" + kind + " 0 5 0 0;", "silent 0;", 2, 3);
        }
        // The near one lifts, though another, who is deaf then, is nearer.
        sets("plain 0 5 0 0;near 2 5 0 0;plain 1 5 0 0;", "lifted 0 1 5;", 4, 5);
    }

    /** "all but that DESK's own ONE being there": whether he is deaf does not matter to his own desk. */
    private static void promise17SureAndClear() {
        String three = "plain 0 5 0 0;plain 0 5 0 0;plain 0 4 0 0;";
        log(three, "lifted 0 1 5;", 2, 4, 2, 1, 1, 4);
        log(three, "lifted 0 2 4;", 4, 0, 4, 2, 0, 0);
        log(three, "silent 0;", 2, 6, 0, 1, 2, 6);
        log(three, "silent 0;silent 1;", 1, 7, 0, 0, 3, 7);
        log(three, "lifted 2 0 5;lifted 0 2 4;", 2, 0, 5, 0, 0, 0);
        log(three, "silent 2;lifted 0 2 4;", 1, 3, 4, 0, 2, 3);
        log("plain 0 5 0 0;", "silent 0;", 2, 0, 0, 0, 0, 0);
    }

    /** "the greatest number of those that FIT by which one and the same (or nobody) lifts is least, of several the least". */
    private static void promise17Try() {
        // Nobody hears desk 0: of 8 sets nobody lifts in all.
        log("plain 0 1 0 0;plain 20 1 0 0;plain 21 1 0 0;", "", 8, 0, 0, 1, 0, 0);
        log("plain 20 1 0 0;plain 0 1 0 0;plain 21 1 0 0;", "", 8, 0, 0, 0, 0, 0);
        log("plain 0 1 0 0;plain 12 1 0 0;plain 24 1 0 0;", "", 8, 0, 0, 0, 0, 0);
        // Each desk halves the sets, one more than the others into three parts: of several the least.
        log("plain 0 1 0 0;plain 10 1 0 0;plain 20 1 0 0;", "", 8, 0, 0, 0, 0, 0);
        // 1 is deaf for sure: nobody lifts desk 0; whether 0 is deaf, desk 1 tells.
        log("plain 0 1 0 0;plain 1 1 0 0;plain 20 1 0 0;plain 21 1 0 0;", "silent 0;", 8, 2, 0, 1, 1, 2);
        // 2, who is nearer, is deaf for sure: desks 0, 2 and 3 tell whether 1 is, desk 1 tells nothing.
        log("plain 0 1 0 0;plain 10 1 0 0;plain 10 1 0 0;plain 20 1 0 0;", "lifted 1 0 1;", 4, 4, 1, 0, 1, 4);
        // 1 and 2 are deaf, 0 is not: he lifts desk 1 in both sets, desk 2 unless 3, who may be deaf, is quicker.
        log("plain 10 2 0 0;plain 0 1 0 0;plain 15 1 0 0;plain 25 1 0 0;", "silent 0;lifted 1 0 2;", 2, 6, 1, 2, 2, 6);
        log("plain 10 1 0 0;plain 0 1 0 0;plain 20 1 0 0;", "silent 1;silent 2;", 4, 1, 0, 0, 1, 1);
        log("plain 10 1 0 0;plain 0 1 0 0;plain 20 1 0 0;", "lifted 1 0 1;", 4, 0, 1, 0, 0, 0);
    }

    private static void promise17FullLog() {
        String office = "plain 0 3 0 0;".repeat(8);
        log(office, "lifted 7 0 3;".repeat(8), 128, 0, 1, 0, 0, 0);
        log(office, "silent 7;".repeat(8), 2, 127, 0, 0, 7, 127);
        log(office, "silent 0;silent 1;silent 2;silent 3;silent 4;silent 5;silent 6;silent 7;", 1, 255, 0, 0, 8, 255);
        log(office, "lifted 0 7 3;lifted 7 6 3;", 0, -1, -1, -1, -1, -1);
        log(office, "lifted 0 7 3;", 2, 126, 128, 1, 6, 126);
        sets(office, "lifted 0 7 3;", 126, 127);
        // Only the last of eight facts is not so.
        log(office, "lifted 7 0 3;".repeat(7) + "silent 7;", 0, -1, -1, -1, -1, -1);
    }

    private static void promise17NotThere() {
        for (int desks = 0; desks <= 8; desks++) {
            String office = "plain 0 1 0 0;".repeat(desks);
            for (int desk = 0; desk <= 7; desk++) {
                told(office, "silent " + desk + ";", desk < desks);
                told(office, "silent 0;".repeat(7) + "silent " + desk + ";", desk < desks && desks > 0);
                int other = desk == 0 ? 1 : 0;
                told(office, "lifted " + desk + " " + other + " 1;", desk < desks && other < desks);
                told(office, "lifted " + other + " " + desk + " 1;", desk < desks && other < desks);
            }
        }
    }

    private static void told(String office, String log, boolean there) {
        DeskRings x = Checks.officeAndLog(office, log);
        for (int what : new int[] {0, 1, 2, 3, 4, 10, -1}) {
            boolean none = !there || what == 4 || what == -1;
            if (none) {
                C.due("fits(0, 0, " + what + ") of '" + log + "' in '" + office + "'", x.fits(0, 0, what), -2);
            } else if (what < 10) {
                C.due("fits(0, 0, " + what + ") answers", x.fits(0, 0, what) >= -1, true);
            }
        }
        for (boolean set : new boolean[] {false, true}) {
            C.due("blame of '" + log + "' in '" + office + "'", x.blame(0, 0, set) == -2, !there);
        }
    }

    private static void promise17AnotherWhat() {
        DeskRings x = Checks.officeAndLog("plain 0 1 0 0;plain 0 1 0 0;", "");
        int[] head = {4, 0, 0, 0};
        for (int what = -40; what <= 300; what++) {
            int want = what >= 0 && what < 4 ? head[what] : what >= 10 && what < 14 ? what - 10 : -2;
            C.due("fits(0, 0, " + what + ")", x.fits(0, 0, what), want);
        }
        for (int what : new int[] {LEAST, MOST, LEAST + 10, MOST - 1, LEAST + 9}) {
            C.due("fits(0, 0, " + what + ")", x.fits(0, 0, what), -2);
        }
    }

    private static void promise17And30NoSuch() {
        DeskRings x = Checks.officeAndLog("plain 0 1 0 0;", "");
        for (int n : NOT_THERE) {
            for (int what : new int[] {0, 1, 2, 3, 10, 9}) {
                C.due("fits(" + n + ", 0, " + what + ")", x.fits(n, 0, what), -2);
                C.due("fits(0, " + n + ", " + what + ")", x.fits(0, n, what), -2);
            }
            for (boolean set : new boolean[] {false, true}) {
                C.due("blame(" + n + ", 0, " + set + ")", x.blame(n, 0, set), -2);
                C.due("blame(0, " + n + ", " + set + ")", x.blame(0, n, set), -2);
            }
        }
        C.due("no log", Checks.office("").fits(0, 0, 0), -2);
        C.due("no log", Checks.office("").blame(0, 0, true), -2);
        DeskRings logAlone = new DeskRings();
        Checks.tell(logAlone, 2, -1, "");
        C.due("no office", logAlone.fits(0, 0, 0), -2);
        C.due("no office", logAlone.blame(0, 0, false), -2);
        // Of two logs and two offices each is its own.
        Checks.tell(x, 0, -1, "plain 0 1 0 0;plain 0 1 0 0;");
        Checks.tell(x, 2, -1, "silent 0;");
        int[][] want = {{2, 2}, {4, 2}};
        for (int office = 0; office < 2; office++) {
            for (int log = 0; log < 2; log++) {
                C.due("fits(" + office + ", " + log + ", 0)", x.fits(office, log, 0), want[office][log]);
            }
        }
        C.due("blame(1, 1, true)", x.blame(1, 1, true), 2);
        C.due("blame(0, 1, true)", x.blame(0, 1, true), 0);
    }

    /** "the fewest who are DEAF of a SET that FITS". */
    private static void promise30Fewest() {
        log("plain 0 1 0 0;plain 0 1 0 0;plain 0 1 0 0;plain 0 1 0 0;", "lifted 0 3 1;", 2, 6, 8, 1, 2, 6);
        log("plain 0 1 0 0;plain 0 1 0 0;plain 0 1 0 0;plain 0 1 0 0;", "lifted 3 2 1;", 2, 3, 4, 2, 2, 3);
        log("plain 0 1 0 0;".repeat(8), "silent 0;", 2, 254, 0, 1, 7, 254);
        log("plain 0 1 0 0;", "", 2, 0, 0, 0, 0, 0);
    }
}
