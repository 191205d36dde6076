/** Terms 2 and promises 8, 9, 18, 29 at their edges: deeds that just can and just can't be, rings, faded worth, clashes. */
public final class EdgeDayTest {
    private static final Checks C = new Checks();
    private static final int LEAST = Integer.MIN_VALUE;
    private static final int MOST = Integer.MAX_VALUE;
    private static final int[] NOT_THERE = {-1, -2, 1, 2, LEAST, MOST};
    private static final String TEN_CALLS = "call 0 99 20;".repeat(10);
    private static final String TEN_RINGS = "away 0;ring 0;ring 1;ring 2;ring 3;ring 4;ring 5;ring 6;ring 7;ring 8;ring 9;";

    public static void main(String[] args) {
        term2PatienceAndMachine();
        term2FadedWorth();
        term2OwnDesk();
        term2SoftOnesHelp();
        term2FairOnesHelp();
        term2NearOnes();
        term2Clashes();
        term2PatienceOfEachCall();
        term2CallsRingAgain();
        term2Slips();
        promise8EmptyAndFullDays();
        promise8DeedsThatCannotBe();
        promise8NoSuch();
        promise9StatesUpToStop();
        promise9EveryWhat();
        promise9NoSuch();
        promise18EveryWhat();
        promise18Draws();
        promise18NothingToDrawFrom();
        promise18Refused();
        promise29Helper();
        promise29Half();
        promise29Unread();
        promise29UpToStop();
        promise29NoSuch();
        C.finish();
    }

    /** Of a state: answered, gone, took, got, paid, clashes. */
    private static void state(String when, DeskRings x, int n, int... want) {
        for (int i = 0; i < want.length; i++) {
            C.due("state(0, 0, " + n + ", " + (i + 1) + ") of " + when, x.state(0, 0, n, i + 1), want[i]);
        }
    }

    /** He lifts at a ring "not above PATIENCE, nor above MACHINE"; the machine takes it if it is "PATIENCE or less". */
    private static void term2PatienceAndMachine() {
        for (int rings = 1; rings <= 12; rings++) {
            for (int patience = 1; patience <= 20; patience++) {
                for (int machine = 0; machine <= 20; machine++) {
                    String office = "fade 0;plain 0 1 0 0;plain 0 " + rings + " 3 0;call 0 50 " + patience + ";machine "
                            + machine + ";";
                    DeskRings x = Checks.officeAndDay(office, "away 0;ring 0;");
                    boolean late = rings > patience || machine != 0 && rings > machine;
                    boolean takes = late && machine >= 1 && machine <= patience;
                    state(office, x, 2, late ? 0 : 1, late && !takes ? 1 : 0, takes ? 1 : 0, late ? 0 : 50, late ? 0 : 3, 0);
                    C.due("helped", x.state(0, 0, 2, 11), late ? 0 : 1);
                    C.due("slips", x.state(0, 0, 2, 20), late ? 0 : 1);
                }
            }
        }
    }

    /** "WORTH less FADE for each ring but the first, 0 at least". */
    private static void term2FadedWorth() {
        for (int fade = 0; fade <= 9; fade++) {
            for (int rings = 1; rings <= 12; rings++) {
                int lost = fade * (rings - 1);
                for (int worth : new int[] {0, 1, 98, 99, lost - 1, lost, lost + 1}) {
                    if (worth >= 0 && worth <= 99) {
                        String office = "plain 0 1 0 0;plain 0 " + rings + " 3 0;call 0 " + worth + " 20;fade " + fade + ";";
                        DeskRings x = Checks.officeAndDay(office, "away 0;ring 0;");
                        state(office, x, 2, 1, 0, 0, worth > lost ? worth - lost : 0, 3, 0);
                    }
                }
            }
        }
    }

    /** His own desk each one lifts at ring 1, of whatever kind, without cost, slip or help. */
    private static void term2OwnDesk() {
        for (String kind : new String[] {"plain", "soft", "deaf", "fair", "near"}) {
            String office = kind + " 5 12 20 0;plain 5 1 1 0;machine 1;fade 9;call 0 99 1;";
            DeskRings x = Checks.officeAndDay(office, "ring 0;");
            state(office, x, 1, 1, 0, 0, 99, 0, 0);
            C.due("nobody helped", x.state(0, 0, 1, 10), 0);
            C.due("nobody helped", x.state(0, 0, 1, 11), 0);
            C.due("no slip", x.state(0, 0, 1, 20), 0);
        }
    }

    private static void gotByRings(String helper, int... rings) {
        DeskRings x = Checks.officeAndDay("plain 0 1 0 0;" + helper + TEN_CALLS, TEN_RINGS);
        int got = 0;
        int answered = 0;
        for (int k = 0; k < 10; k++) {
            got += rings[k] == 0 ? 0 : 100 - rings[k];
            answered += rings[k] == 0 ? 0 : 1;
            C.due(helper + " got behind " + (k + 1) + " rings", x.state(0, 0, k + 2, 4), got);
            C.due(helper + " helped behind " + (k + 1) + " rings", x.state(0, 0, k + 2, 11), answered);
            C.due(helper + " gone behind " + (k + 1) + " rings", x.state(0, 0, k + 2, 2), k + 1 - answered);
        }
    }

    /** "RINGS less as many as he has HELPED already, 1 at least". */
    private static void term2SoftOnesHelp() {
        gotByRings("soft 0 1 0 0;", 1, 1, 1, 1, 1, 1, 1, 1, 1, 1);
        gotByRings("soft 0 2 0 0;", 2, 1, 1, 1, 1, 1, 1, 1, 1, 1);
        gotByRings("soft 0 9 0 0;", 9, 8, 7, 6, 5, 4, 3, 2, 1, 1);
        gotByRings("soft 0 12 0 0;", 12, 11, 10, 9, 8, 7, 6, 5, 4, 3);
    }

    /** "RINGS and as many more as he has HELPED": beyond 12, too, and beyond all patience at last. */
    private static void term2FairOnesHelp() {
        gotByRings("fair 0 1 0 0;", 1, 2, 3, 4, 5, 6, 7, 8, 9, 10);
        gotByRings("fair 0 11 0 0;", 11, 12, 13, 14, 15, 16, 17, 18, 19, 20);
        gotByRings("fair 0 12 0 0;", 12, 13, 14, 15, 16, 17, 18, 19, 20, 0);
        gotByRings("plain 0 12 0 0;", 12, 12, 12, 12, 12, 12, 12, 12, 12, 12);
    }

    /** "if nobody else who is there and HEARS it is nearer to it (DEAF ones, too), else none". */
    private static void term2NearOnes() {
        String[] offices = {"near 7 2 3 0;", "near 7 2 3 0;deaf 8 1 0 0;", "near 7 2 3 0;deaf 6 1 0 0;",
            "near 7 2 3 0;deaf 3 1 0 0;", "near 7 2 3 0;deaf 4 1 0 0;", "near 5 2 3 0;deaf 5 1 0 0;",
            "near 15 2 3 0;", "near 16 2 3 0;", "near 7 2 3 0;near 3 2 3 0;", "near 7 2 3 0;near 6 12 3 0;"};
        int[] got = {9, 9, 0, 9, 0, 9, 9, 0, 9, 0};
        for (int i = 0; i < offices.length; i++) {
            DeskRings x = Checks.officeAndDay("plain 5 1 0 0;" + offices[i] + "call 0 10 8;", "away 0;ring 0;");
            C.due("got by '" + offices[i] + "'", x.state(0, 0, 2, 4), got[i]);
        }
        // One who is nearer, but away, does not count.
        DeskRings x = Checks.officeAndDay("plain 5 1 0 0;near 7 2 3 0;deaf 6 1 0 0;call 0 10 8;", "away 0;away 2;ring 0;");
        C.due("the nearer one is away", x.state(0, 0, 3, 4), 9);
    }

    private static void clash(String helpers, String day, int answered, int clashes, int lifter) {
        DeskRings x = Checks.officeAndDay("plain 10 1 0 0;" + helpers + "call 0 50 5;call 0 50 5;call 0 50 4;", day);
        int stop = x.stop(0, 0);
        C.due("answered of '" + helpers + "'", x.state(0, 0, stop, 1), answered);
        C.due("clashes of '" + helpers + "'", x.state(0, 0, stop, 6), clashes);
        for (int one = 1; one < x.office(0, 0); one++) {
            boolean lifts = one == lifter;
            C.due("help of " + one + " of '" + helpers + "'", x.state(0, 0, stop, 10 + one) > 0, lifts);
        }
    }

    private static void term2Clashes() {
        String day = "away 0;ring 0;";
        clash("plain 11 5 0 0;", day, 1, 0, 1);
        clash("plain 11 5 0 0;plain 11 5 0 0;", day, 1, 1, 1);
        clash("plain 11 5 0 0;plain 9 5 0 0;", day, 1, 1, 1);
        clash("plain 12 5 0 0;plain 9 5 0 0;", day, 1, 1, 2);
        clash("plain 12 4 0 0;plain 9 5 0 0;", day, 1, 0, 1);
        clash("plain 12 5 0 0;plain 9 4 0 0;", day, 1, 0, 2);
        clash("plain 21 5 0 0;plain 9 5 0 0;", day, 1, 0, 2);
        clash("deaf 9 5 0 0;plain 12 5 0 0;", day, 1, 0, 2);
        clash("near 9 5 0 0;near 11 5 0 0;", day, 1, 1, 1);
        clash("soft 13 5 0 0;fair 12 5 0 0;near 11 5 0 0;plain 9 5 0 0;", day, 1, 1, 3);
        clash("plain 9 5 0 0;".repeat(7), day, 1, 1, 1);
        // Several, but the caller is gone before they lift; or the desk's own one lifts.
        clash("plain 11 6 0 0;plain 11 6 0 0;", day, 0, 0, 0);
        clash("plain 11 5 0 0;plain 11 5 0 0;machine 4;", day, 0, 0, 0);
        clash("plain 10 1 0 0;plain 10 1 0 0;", "ring 0;", 1, 0, 0);
        // Each counts.
        clash("plain 11 5 0 0;plain 11 5 0 0;", "away 0;ring 0;ring 1;ring 2;", 3, 2, 1);
    }

    /** Each call has a patience of its own, the last one, too. */
    private static void term2PatienceOfEachCall() {
        DeskRings x = Checks.officeAndDay("plain 0 1 0 0;plain 0 9 1 0;machine 5;call 0 9 4;call 0 9 5;call 0 9 4;call 0 9 6;",
                "away 0;ring 0;ring 1;ring 2;ring 3;");
        state("gone", x, 2, 0, 1, 0, 0, 0, 0);
        state("taken", x, 3, 0, 1, 1, 0, 0, 0);
        state("gone again", x, 4, 0, 2, 1, 0, 0, 0);
        state("taken again", x, 5, 0, 2, 2, 0, 0, 0);
    }

    private static void term2CallsRingAgain() {
        String office = "plain 0 1 0 0;plain 0 5 1 0;call 0 50 4;";
        DeskRings x = Checks.officeAndDay(office, "away 0;ring 0;ring 0;back 0;ring 0;ring 0;");
        C.due("an answered call rings no more", x.stop(0, 0), 5);
        state("gone twice", x, 3, 0, 2, 0, 0, 0, 0);
        state("answered at last", x, 5, 1, 2, 0, 50, 0, 0);
        x = Checks.officeAndDay(office + "machine 4;", "away 0;ring 0;ring 0;back 0;ring 0;ring 0;");
        C.due("an answered call rings no more", x.stop(0, 0), 5);
        state("taken twice", x, 3, 0, 0, 2, 0, 0, 0);
        state("answered at last", x, 5, 1, 0, 2, 50, 0, 0);
    }

    private static void term2Slips() {
        DeskRings x = Checks.officeAndDay("plain 0 1 0 0;plain 0 1 7 0;call 0 9 9;call 0 9 9;call 0 9 9;call 1 9 9;",
                "away 0;ring 0;ring 1;back 0;read 0;away 0;ring 2;back 0;away 1;ring 3;back 1;read 1;read 0;read 0;");
        C.due("all slips are read", x.stop(0, 0), 13);
        int[] slips = {0, 0, 1, 2, 2, 0, 0, 1, 1, 1, 1, 1, 1, 0};
        int[] read = {0, 0, 0, 0, 0, 2, 2, 2, 2, 2, 2, 2, 2, 3};
        for (int n = 0; n <= 13; n++) {
            C.due("slips behind " + n, x.state(0, 0, n, 20), slips[n]);
            C.due("read behind " + n, x.state(0, 0, n, 30), read[n]);
            C.due("slips of the other behind " + n, x.state(0, 0, n, 21), n == 10 || n == 11 ? 1 : 0);
            C.due("read by the other behind " + n, x.state(0, 0, n, 31), n >= 12 ? 1 : 0);
        }
        C.due("paid", x.state(0, 0, 13, 5), 21);
    }

    private static void promise8EmptyAndFullDays() {
        for (String office : new String[] {"", "plain 0 1 0 0;", "plain 0 1 0 0;call 0 1 1;"}) {
            C.due("stop of no deeds", Checks.officeAndDay(office, "").stop(0, 0), 0);
        }
        C.due("40 deeds", Checks.officeAndDay("plain 0 1 0 0;", "away 0;back 0;".repeat(20)).stop(0, 0), 40);
        C.due("39 of 40", Checks.officeAndDay("plain 0 1 0 0;", "away 0;back 0;".repeat(19) + "away 0;away 0;").stop(0, 0), 39);
        C.due("0 of 40", Checks.officeAndDay("plain 0 1 0 0;", "back 0;away 0;".repeat(20)).stop(0, 0), 0);
        C.due("39 of 39", Checks.officeAndDay("plain 0 1 0 0;", "away 0;back 0;".repeat(19) + "away 0;").stop(0, 0), 39);
    }

    private static void stop(String office, String day, int want) {
        C.due("stop of '" + day + "' in '" + office + "'", Checks.officeAndDay(office, day).stop(0, 0), want);
    }

    private static void promise8DeedsThatCannotBe() {
        for (int desks = 0; desks <= 8; desks++) {
            String office = "plain 0 1 0 0;".repeat(desks);
            for (int d = 0; d < 8; d++) {
                stop(office, "away " + d + ";", d < desks ? 1 : 0);
                stop(office, "away " + d + ";back " + d + ";", d < desks ? 2 : 0);
                stop(office, "away " + d + ";away " + d + ";", d < desks ? 1 : 0);
                stop(office, "back " + d + ";", 0);
                stop(office, "read " + d + ";", 0);
            }
        }
        for (int calls = 0; calls <= 10; calls++) {
            String office = "plain 0 1 0 0;plain 0 1 0 0;" + "call 1 1 1;".repeat(calls);
            for (int call = 0; call < 10; call++) {
                stop(office, "ring " + call + ";", call < calls ? 1 : 0);
                stop(office, "ring " + call + ";ring " + call + ";", call < calls ? 1 : 0);
                stop(office, "away 1;ring " + call + ";back 1;read 1;read 1;", call < calls ? 4 : 1);
                stop(office, "away 1;ring " + call + ";read 1;", call < calls ? 2 : 1);
            }
        }
        stop("", "ring 0;", 0);
        // What stands behind the stop is not done, even if it could be.
        DeskRings x = Checks.officeAndDay("plain 0 1 0 0;call 0 9 9;", "back 0;ring 0;");
        C.due("stop", x.stop(0, 0), 0);
        C.due("no state behind it", x.state(0, 0, 1, 1), -2);
    }

    private static void promise8NoSuch() {
        DeskRings x = Checks.officeAndDay("plain 0 1 0 0;", "away 0;");
        C.due("stop(0, 0)", x.stop(0, 0), 1);
        for (int n : NOT_THERE) {
            C.due("stop(" + n + ", 0)", x.stop(n, 0), -1);
            C.due("stop(0, " + n + ")", x.stop(0, n), -1);
            C.due("stop(" + n + ", " + n + ")", x.stop(n, n), -1);
        }
        C.due("no day", Checks.office("").stop(0, 0), -1);
        DeskRings dayAlone = new DeskRings();
        Checks.tell(dayAlone, 1, -1, "");
        C.due("no office", dayAlone.stop(0, 0), -1);
        Checks.tell(x, 0, -1, "");
        Checks.tell(x, 1, -1, "away 0;back 0;away 0;");
        int[][] stops = {{1, 3}, {0, 0}};
        for (int office = 0; office < 2; office++) {
            for (int day = 0; day < 2; day++) {
                C.due("stop(" + office + ", " + day + ")", x.stop(office, day), stops[office][day]);
            }
        }
    }

    private static void promise9StatesUpToStop() {
        DeskRings x = Checks.officeAndDay("plain 0 1 0 0;", "away 0;back 0;".repeat(20));
        for (int n = -2; n <= 42; n++) {
            int want = n < 0 || n > 40 ? -2 : 1 - n % 2;
            C.due("state(0, 0, " + n + ", 0)", x.state(0, 0, n, 0), want);
        }
        x = Checks.officeAndDay("plain 0 1 0 0;", "away 0;away 0;back 0;");
        int[] there = {1, 0, -2, -2, -2};
        for (int n = 0; n <= 4; n++) {
            C.due("state(0, 0, " + n + ", 0) up to a stop", x.state(0, 0, n, 0), there[n]);
        }
        x = Checks.officeAndDay("", "");
        C.due("the state of nothing", x.state(0, 0, 0, 0), 0);
        C.due("none behind it", x.state(0, 0, 1, 0), -2);
        for (int n : new int[] {LEAST, MOST, LEAST + 1, MOST - 1}) {
            C.due("state(0, 0, " + n + ", 0)", x.state(0, 0, n, 0), -2);
        }
        // Everybody is there at first.
        for (int desks = 0; desks <= 8; desks++) {
            x = Checks.officeAndDay("deaf 9 9 9 0;".repeat(desks), "");
            C.due("all are there", x.state(0, 0, 0, 0), (1 << desks) - 1);
        }
    }

    private static void promise9EveryWhat() {
        for (int desks : new int[] {0, 1, 7, 8}) {
            DeskRings x = Checks.officeAndDay("plain 0 1 0 0;".repeat(desks), "");
            for (int what = -120; what <= 150; what++) {
                boolean ofDesk = what >= 10 && what < 40 && what % 10 < desks;
                int want = what == 0 ? (1 << desks) - 1 : what >= 1 && what <= 6 || ofDesk ? 0 : -2;
                C.due("state(0, 0, 0, " + what + ") of " + desks + " desks", x.state(0, 0, 0, what), want);
            }
            for (int what : new int[] {LEAST, MOST, LEAST + 1, MOST - 1}) {
                C.due("state(0, 0, 0, " + what + ")", x.state(0, 0, 0, what), -2);
            }
        }
        // The last desk and the last call count as the first ones do.
        DeskRings x = Checks.officeAndDay("plain 0 1 1 0;".repeat(8) + "call 7 9 9;".repeat(10), "away 7;ring 9;back 7;read 7;");
        C.due("call 9", x.state(0, 0, 2, 1), 512);
        C.due("who helped", x.state(0, 0, 2, 10), 1);
        C.due("a slip on desk 7", x.state(0, 0, 3, 27), 1);
        C.due("read at desk 7", x.state(0, 0, 4, 37), 1);
        C.due("desk 7 is away", x.state(0, 0, 1, 0), 127);
        x = Checks.officeAndDay("plain 0 1 1 0;" + "deaf 0 1 1 0;".repeat(6) + "plain 0 1 1 0;call 0 9 9;", "away 0;ring 0;");
        C.due("the one at desk 7 helped", x.state(0, 0, 2, 17), 1);
    }

    private static void promise9NoSuch() {
        DeskRings x = Checks.officeAndDay("plain 0 1 0 0;", "away 0;");
        for (int n : NOT_THERE) {
            for (int what : new int[] {0, 4, 10, 9}) {
                C.due("state(" + n + ", 0, 0, " + what + ")", x.state(n, 0, 0, what), -2);
                C.due("state(0, " + n + ", 0, " + what + ")", x.state(0, n, 0, what), -2);
            }
        }
        C.due("no day", Checks.office("").state(0, 0, 0, 0), -2);
    }

    private static void promise18EveryWhat() {
        for (int desks : new int[] {0, 1, 7, 8}) {
            DeskRings x = Checks.office("plain 0 1 0 0;".repeat(desks));
            for (int what = -120; what <= 150; what++) {
                boolean ofDesk = what >= 10 && what < 40 && what % 10 < desks;
                int want = what == 0 ? (1 << desks) - 1 : what >= 1 && what <= 6 || ofDesk ? 0 : -2;
                C.due("drawn(0, 0, 0, " + what + ") of " + desks + " desks", x.drawn(0, 0, 0, what), want);
            }
            for (int what : new int[] {LEAST, MOST, LEAST + 1, MOST - 1}) {
                C.due("drawn(0, 0, 0, " + what + ")", x.drawn(0, 0, 0, what), -2);
            }
        }
    }

    private static void promise18Draws() {
        String[] offices = {"", "plain 0 1 0 0;", "plain 0 1 0 0;call 0 9 9;", "plain 0 1 2 0;fair 3 4 5 0;deaf 3 1 1 0;",
            "soft 0 3 5 5;plain 4 2 1 8;fair 6 1 2 2;call 0 20 3;call 2 10 1;call 1 8 9;ear 4;machine 3;fade 3;",
            "fair 5 12 1 1;".repeat(8) + "call 0 99 13;call 7 98 20;".repeat(5)};
        int[] seeds = {0, 1, -1, 2, LEAST, MOST, LEAST + 1, MOST - 1, 12345, -1103515245};
        for (String office : offices) {
            Oracle o = new Oracle(Checks.office(office), 0);
            for (int seed : seeds) {
                DeskRings x = Checks.office(office);
                for (int n : new int[] {0, 1, 2, 3, 59, 60}) {
                    Oracle.Run run = Oracle.drawn(o, seed, n);
                    for (int what : new int[] {0, 1, 2, 3, 4, 5, 6, 10, 17, 18, 20, 27, 28, 30, 37, 38, 40}) {
                        C.due("drawn(0, " + seed + ", " + n + ", " + what + ") of '" + office + "'",
                                x.drawn(0, seed, n, what), run.tell(what));
                    }
                }
            }
        }
    }

    /** By hand, of seed 0: 0, 54236, 42756, 54885, 3498, 49695, 16045; a number that is not drawn leaves the next one to others. */
    private static void promise18NothingToDrawFrom() {
        // 0: ring, but there are no calls; 54236 % 8 is 4: away, 42756 % 2 is 0.
        DeskRings x = Checks.office("plain 0 1 0 0;plain 0 1 0 0;");
        C.due("no call is drawn", x.drawn(0, 0, 1, 0), 3);
        C.due("the next draw is a deed", x.drawn(0, 0, 2, 0), 2);
        // 54885 % 8 is 5: back, 3498 % 2 is 0; 49695 % 8 is 7: read, 16045 % 2 is 1, where no slip is: nothing is done.
        C.due("back again", x.drawn(0, 0, 3, 0), 3);
        C.due("it may not be", x.drawn(0, 0, 4, 31), 0);
        x = Checks.office("");
        for (int what = 0; what <= 6; what++) {
            C.due("drawn from nothing", x.drawn(0, 5, 60, what), 0);
        }
    }

    private static void promise18Refused() {
        DeskRings x = Checks.office("plain 0 1 0 0;call 0 9 9;");
        for (int n : new int[] {-1, 61, -2, 62, LEAST, MOST}) {
            C.due("drawn(0, 0, " + n + ", 0)", x.drawn(0, 0, n, 0), -2);
        }
        for (int office : NOT_THERE) {
            C.due("drawn(" + office + ", 0, 0, 0)", x.drawn(office, 0, 0, 0), -2);
        }
        C.due("60 draws", x.drawn(0, 0, 60, 2), 0);
        for (int what : new int[] {-1, 7, 8, 9, 11, 21, 31, 40, LEAST, MOST}) {
            C.due("drawn(0, 0, 60, " + what + ")", x.drawn(0, 0, 60, what), -2);
        }
    }

    private static void after(String office, String day, int helper, int half, int unread) {
        DeskRings x = Checks.officeAndDay(office, day);
        C.due("HELPER of '" + day + "'", x.after(0, 0, 0), helper);
        C.due("HALF of '" + day + "'", x.after(0, 0, 1), half);
        C.due("UNREAD of '" + day + "'", x.after(0, 0, 2), unread);
    }

    private static void promise29Helper() {
        after("", "", -1, 0, 0);
        after("plain 0 1 0 0;call 0 9 9;", "", -1, 0, 0);
        String three = "plain 0 1 0 0;plain 0 1 0 0;plain 0 1 0 0;call 0 0 9;call 0 0 9;call 1 0 9;call 2 0 9;";
        after(three, "ring 0;ring 2;ring 3;", -1, 0, 0);
        // 1 and 2 help once, 2 helps once more; of as many the least.
        after(three, "away 0;ring 0;away 1;ring 1;", 1, 0, 1);
        after(three, "away 0;away 1;ring 0;back 1;ring 1;", 1, 0, 1);
        after(three, "away 0;ring 0;away 1;ring 1;ring 2;", 2, 0, 3);
        after("plain 0 1 0 0;" + "deaf 0 1 0 0;".repeat(6) + "plain 0 1 0 0;call 0 0 9;", "away 0;ring 0;", 7, 0, 1);
        after("plain 0 1 0 0;" + "deaf 0 1 0 0;".repeat(6) + "plain 0 1 0 0;call 7 0 9;", "away 7;ring 0;", 0, 0, 128);
    }

    /** "half or more of what is GOT in the end". */
    private static void promise29Half() {
        String desk = "plain 0 1 0 0;";
        after(desk + "call 0 0 1;call 0 1 1;", "ring 0;ring 1;", -1, 2, 0);
        after(desk + "call 0 5 1;call 0 5 1;", "ring 0;ring 1;", -1, 1, 0);
        after(desk + "call 0 5 1;call 0 6 1;", "ring 0;ring 1;", -1, 2, 0);
        after(desk + "call 0 6 1;call 0 5 1;", "ring 0;ring 1;", -1, 1, 0);
        after(desk + "call 0 0 1;call 0 0 1;", "ring 0;ring 1;", -1, 0, 0);
        after(desk + "call 0 99 1;".repeat(10), "ring 0;ring 1;ring 2;ring 3;ring 4;ring 5;ring 6;ring 7;ring 8;ring 9;",
                -1, 5, 0);
        after(desk + "call 0 9 1;", "away 0;back 0;".repeat(19) + "away 0;ring 0;", -1, 0, 0);
        after(desk + "call 0 9 1;", "away 0;back 0;".repeat(19) + "ring 0;away 0;", -1, 39, 0);
        after(desk + "call 0 9 1;", "away 0;back 0;".repeat(19) + "ring 0;", -1, 39, 0);
        after(desk + "call 0 9 1;", "away 0;ring 0;back 0;" + "away 0;back 0;".repeat(18) + "ring 0;", -1, 40, 0);
    }

    private static void promise29Unread() {
        String office = "plain 0 1 0 0;".repeat(8);
        StringBuilder calls = new StringBuilder();
        StringBuilder day = new StringBuilder();
        for (int d = 0; d < 8; d++) {
            calls.append("call ").append(d).append(" 0 9;");
            day.append("away ").append(d).append(";ring ").append(d).append(";back ").append(d).append(';');
        }
        after(office + calls, day.toString(), 0, 0, 255);
        after(office + calls, day + "read 0;read 7;", 0, 0, 126);
        after(office + calls, day.substring(0, 21), 1, 0, 1);
    }

    private static void promise29UpToStop() {
        String office = "plain 0 1 0 0;plain 0 1 0 0;call 0 8 9;call 0 8 9;";
        after(office, "away 0;ring 0;ring 0;ring 1;", 1, 2, 1);
        after(office, "back 0;away 0;ring 0;", -1, 0, 0);
        after(office, "away 0;ring 0;back 0;read 0;read 0;away 0;ring 1;", 1, 2, 0);
    }

    private static void promise29NoSuch() {
        DeskRings x = Checks.officeAndDay("plain 0 1 0 0;", "away 0;");
        for (int what : new int[] {-1, 3, -2, LEAST, MOST}) {
            C.due("after(0, 0, " + what + ")", x.after(0, 0, what), -2);
        }
        for (int n : NOT_THERE) {
            for (int what = 0; what < 4; what++) {
                C.due("after(" + n + ", 0, " + what + ")", x.after(n, 0, what), -2);
                C.due("after(0, " + n + ", " + what + ")", x.after(0, n, what), -2);
            }
        }
        C.due("no day", Checks.office("").after(0, 0, 0), -2);
    }
}
