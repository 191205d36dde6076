/** Terms 2, 3, 6 and promises 10 to 13, 15, 33, 34 at their edges: who just hears, who is there, odds of 0 and of 1. */
public final class EdgeLiftTest {
    private static final Checks C = new Checks();
    private static final int LEAST = Integer.MIN_VALUE;
    private static final int MOST = Integer.MAX_VALUE;
    private static final int[] NOT_THERE = {-1, -2, 1, 2, LEAST, MOST};
    private static final int[] NO_DESK = {-1, -2, 3, 4, 7, 8, 31, 32, 33, LEAST, MOST};
    private static final String THREE = "plain 0 3 1 5;plain 5 2 1 5;plain 10 1 1 5;call 0 9 9;";

    public static void main(String[] args) {
        term2HearsUpToEar();
        term2OfSeveral();
        promise10Kinds();
        promise10NobodyHelpedYet();
        promise10BitsOfThoseThere();
        promise10NoSuch();
        promise11Enough();
        promise12And13SureAndNever();
        promise12And13PatienceAndMachine();
        promise12And13LongFractions();
        promise12And13NoSuch();
        promise15Rows();
        promise15NoSuch();
        promise33Ties();
        promise33NoSuch();
        promise34Heads();
        promise34NoSuch();
        C.finish();
    }

    private static void who(String office, int desk, int there, int who, int ring) {
        DeskRings x = Checks.office(office);
        C.due("who(0, " + desk + ", " + there + ", false) of '" + office + "'", x.who(0, desk, there, false), who);
        C.due("who(0, " + desk + ", " + there + ", true) of '" + office + "'", x.who(0, desk, there, true), ring);
    }

    /** "if their PLACES are EAR apart or less". */
    private static void term2HearsUpToEar() {
        for (int ear = 0; ear <= 30; ear++) {
            for (int place : new int[] {ear - 1, ear, ear + 1, 0, 30}) {
                if (place >= 0 && place <= 30) {
                    String office = "plain 0 1 0 0;plain " + place + " 7 0 0;ear " + ear + ";";
                    who(office, 0, 2, place <= ear ? 1 : -1, place <= ear ? 7 : -1);
                    who(office, 1, 1, place <= ear ? 0 : -1, place <= ear ? 1 : -1);
                }
            }
        }
        who("plain 0 1 0 0;plain 10 7 0 0;", 0, 2, 1, 7);
        who("plain 0 1 0 0;plain 11 7 0 0;", 0, 2, -1, -1);
    }

    /** "He whose ring is least lifts, of several the nearest one, of these the least by number". */
    private static void term2OfSeveral() {
        String desk = "plain 15 1 0 0;";
        who(desk + "plain 16 5 0 0;plain 25 4 0 0;", 0, 6, 2, 4);
        who(desk + "plain 25 4 0 0;plain 16 5 0 0;", 0, 6, 1, 4);
        who(desk + "plain 17 5 0 0;plain 16 5 0 0;", 0, 6, 2, 5);
        who(desk + "plain 17 5 0 0;plain 14 5 0 0;", 0, 6, 2, 5);
        who(desk + "plain 16 5 0 0;plain 14 5 0 0;", 0, 6, 1, 5);
        who(desk + "plain 14 5 0 0;plain 16 5 0 0;", 0, 6, 1, 5);
        who(desk + "plain 15 5 0 0;".repeat(7), 0, 254, 1, 5);
        who(desk + "plain 15 5 0 0;".repeat(7), 0, 128, 7, 5);
        who(desk + "plain 16 12 0 0;".repeat(6) + "plain 15 12 0 0;", 0, 254, 7, 12);
        who("plain 15 5 0 0;".repeat(8), 7, 127, 0, 5);
    }

    private static void promise10Kinds() {
        for (int rings : new int[] {1, 12}) {
            for (String kind : new String[] {"plain", "soft", "fair", "near"}) {
                who("plain 0 1 0 0;" + kind + " 0 " + rings + " 0 0;", 0, 2, 1, rings);
                who(kind + " 0 " + rings + " 0 0;", 0, 1, 0, 1);
            }
            who("plain 0 1 0 0;deaf 0 " + rings + " 0 0;", 0, 2, -1, -1);
            who("deaf 0 " + rings + " 0 0;", 0, 1, 0, 1);
        }
        // Own one there: at ring 1, whoever else would.
        who("plain 5 12 0 0;plain 5 1 0 0;", 0, 3, 0, 1);
        who("plain 5 12 0 0;plain 5 1 0 0;", 1, 3, 1, 1);
        // Neither patience nor the machine has a say in who would lift.
        who("plain 5 1 0 0;plain 5 12 0 0;machine 1;call 0 1 1;", 0, 2, 1, 12);
        // The near one, by who is there.
        String near = "plain 5 1 0 0;near 7 3 0 0;deaf 6 1 0 0;deaf 7 1 0 0;";
        who(near, 0, 2, 1, 3);
        who(near, 0, 10, 1, 3);
        who(near, 0, 6, -1, -1);
        who(near, 0, 14, -1, -1);
        who("plain 5 1 0 0;near 7 3 0 0;plain 6 9 0 0;", 0, 6, 2, 9);
        // Nearer, but out of hearing, nobody can be; nearer to another desk does not count.
        who("plain 5 1 0 0;near 3 3 0 0;plain 20 1 0 0;ear 2;", 0, 6, 1, 3);
    }

    private static void promise10NobodyHelpedYet() {
        DeskRings x = Checks.officeAndDay("plain 0 1 0 0;soft 0 5 0 0;fair 0 5 0 0;call 0 9 9;call 0 9 9;call 0 9 9;",
                "away 0;ring 0;ring 1;ring 2;");
        x.state(0, 0, 4, 4);
        x.drawn(0, 1, 60, 4);
        x.rule(0, 0, 0);
        x.order(0, 3, -1);
        C.due("the soft one", x.who(0, 0, 2, true), 5);
        C.due("the fair one", x.who(0, 0, 4, true), 5);
        C.due("tied", x.tied(0, 0), 6);
        // Each of eight: neither sooner nor later than told.
        for (int one = 0; one < 8; one++) {
            int desk = one == 0 ? 1 : 0;
            for (String kind : new String[] {"soft", "fair"}) {
                who("deaf 5 5 0 0;".repeat(one) + kind + " 5 5 0 0;" + "deaf 5 5 0 0;".repeat(7 - one), desk, 1 << one, one, 5);
            }
        }
    }

    private static void promise10BitsOfThoseThere() {
        for (int desks = 1; desks <= 8; desks++) {
            DeskRings x = Checks.office("plain 0 4 0 0;".repeat(desks));
            int all = (1 << desks) - 1;
            C.due("all of " + desks, x.who(0, 0, all, true), 1);
            C.due("none of " + desks, x.who(0, 0, 0, true), -1);
            C.due("none of " + desks, x.who(0, 0, 0, false), -1);
            C.due("the last of " + desks, x.who(0, desks - 1, 1 << desks - 1, false), desks - 1);
            for (int there : new int[] {all + 1, all + 2, 2 * all + 1, -1, -2, LEAST, LEAST + 1, MOST, -1 << desks}) {
                C.due("who(0, 0, " + there + ", false) of " + desks, x.who(0, 0, there, false), -1);
                C.due("who(0, 0, " + there + ", true) of " + desks, x.who(0, 0, there, true), -1);
            }
        }
    }

    private static void promise10NoSuch() {
        DeskRings x = Checks.office(THREE);
        for (int n : NOT_THERE) {
            C.due("who(" + n + ", 0, 1, false)", x.who(n, 0, 1, false), -1);
            C.due("who(" + n + ", 0, 1, true)", x.who(n, 0, 1, true), -1);
        }
        for (int desk : NO_DESK) {
            C.due("who(0, " + desk + ", 7, false)", x.who(0, desk, 7, false), -1);
            C.due("who(0, " + desk + ", 7, true)", x.who(0, desk, 7, true), -1);
        }
        x = Checks.office("");
        C.due("no desks", x.who(0, 0, 0, false), -1);
        C.due("no desks", x.who(0, 0, 0, true), -1);
        C.due("no desks", x.who(0, -1, 0, true), -1);
    }

    private static void enough(String office, int want) {
        C.due("enough of '" + office + "'", Checks.office(office).enough(0), want);
    }

    /** "the fewest ONES (bits; of several the least)". */
    private static void promise11Enough() {
        enough("", 0);
        enough("deaf 0 1 0 0;", 1);
        for (int desks = 1; desks <= 8; desks++) {
            enough("plain 3 1 0 0;".repeat(desks), 1);
            enough("deaf 3 1 0 0;".repeat(desks), (1 << desks) - 1);
            enough("deaf 3 1 0 0;".repeat(desks - 1) + "plain 3 1 0 0;", 1 << desks - 1);
        }
        enough("ear 3;plain 0 1 0 0;plain 4 1 0 0;plain 8 1 0 0;plain 12 1 0 0;plain 16 1 0 0;plain 20 1 0 0;plain 24 1 0 0;"
                + "plain 28 1 0 0;", 255);
        enough("ear 4;plain 0 1 0 0;plain 4 1 0 0;plain 8 1 0 0;plain 12 1 0 0;plain 16 1 0 0;plain 20 1 0 0;plain 24 1 0 0;"
                + "plain 28 1 0 0;", 0b1001001);
        // Fewer ones are better than lesser bits.
        enough("ear 5;plain 0 1 0 0;plain 10 1 0 0;plain 5 1 0 0;", 4);
        enough("ear 5;plain 0 1 0 0;plain 10 1 0 0;deaf 5 1 0 0;", 3);
        enough("ear 5;plain 0 1 0 0;plain 10 1 0 0;deaf 5 1 0 0;plain 5 1 0 0;", 8);
        // More who are there may lift less: the deaf one would keep the near one from it.
        enough("near 2 1 0 0;deaf 1 1 0 0;plain 0 1 0 0;ear 2;", 1);
        DeskRings x = Checks.office(THREE);
        C.due("enough(0)", x.enough(0), 1);
        for (int n : NOT_THERE) {
            C.due("enough(" + n + ")", x.enough(n), -1);
        }
    }

    private static void fraction(String what, long over, long under, long wantOver, long wantUnder) {
        C.due(what + ", N", over, wantOver);
        C.due(what + ", D", under, wantUnder);
    }

    private static void odds(DeskRings x, int call, long over, long under) {
        fraction("odds", x.odds(0, call, false), x.odds(0, call, true), over, under);
    }

    private static void mean(DeskRings x, int call, long over, long under) {
        fraction("mean", x.mean(0, call, false), x.mean(0, call, true), over, under);
    }

    private static void promise12And13SureAndNever() {
        DeskRings x = Checks.office("plain 0 1 0 0;call 0 99 1;call 0 0 1;");
        odds(x, 0, 0, 1);
        mean(x, 0, 0, 1);
        mean(x, 1, 0, 1);
        x = Checks.office("deaf 0 12 20 10;call 0 99 1;call 0 0 20;");
        odds(x, 0, 1, 1);
        mean(x, 0, 99, 1);
        odds(x, 1, 1, 1);
        mean(x, 1, 0, 1);
        for (int there = 1; there <= 9; there++) {
            x = Checks.office("plain 0 1 0 " + there + ";call 0 10 1;");
            int part = there % 5 == 0 ? 5 : there % 2 == 0 ? 2 : 1;
            odds(x, 0, there / part, 10 / part);
            mean(x, 0, there, 1);
        }
        // He who is sure to be there makes it sure; he who is deaf does not.
        odds(Checks.office("plain 0 1 0 3;plain 0 1 0 10;call 0 9 9;"), 0, 1, 1);
        odds(Checks.office("plain 0 1 0 3;deaf 0 1 0 10;call 0 9 9;"), 0, 3, 10);
        odds(Checks.office("plain 0 1 0 3;plain 11 1 0 10;call 0 9 9;"), 0, 3, 10);
        // Only if the deaf one, who is nearer, is not there, the near one lifts.
        odds(Checks.office("plain 0 1 0 0;near 2 1 0 10;deaf 1 1 0 4;call 0 9 9;"), 0, 3, 5);
        // Worth faded to just nothing is answered all the same.
        x = Checks.office("plain 0 1 0 0;plain 0 4 0 10;fade 3;call 0 9 9;call 0 8 9;call 0 10 9;");
        int[] means = {0, 0, 1};
        for (int call = 0; call < 3; call++) {
            odds(x, call, 1, 1);
            mean(x, call, means[call], 1);
        }
    }

    private static void promise12And13PatienceAndMachine() {
        for (int patience = 1; patience <= 20; patience++) {
            for (int machine = 0; machine <= 20; machine++) {
                DeskRings x = Checks.office("plain 0 1 0 0;plain 0 7 0 5;fade 0;machine " + machine + ";call 0 3 " + patience + ";");
                boolean inTime = patience >= 7 && (machine == 0 || machine >= 7);
                odds(x, 0, inTime ? 1 : 0, inTime ? 2 : 1);
                mean(x, 0, inTime ? 3 : 0, inTime ? 2 : 1);
            }
        }
        // The first who lifts is too late, and another is behind him.
        odds(Checks.office("plain 0 1 0 0;plain 0 3 0 10;plain 0 4 0 10;call 0 9 2;"), 0, 0, 1);
    }

    private static void promise12And13LongFractions() {
        int[] there = {1, 5, 9};
        long[][] want = {{56953279L, 100000000L}, {255, 256}, {99999999L, 100000000L}};
        for (int i = 0; i < 3; i++) {
            DeskRings x = Checks.office(("plain 0 1 0 " + there[i] + ";").repeat(8) + "call 7 99 20;call 0 1 1;");
            odds(x, 0, want[i][0], want[i][1]);
            odds(x, 1, want[i][0], want[i][1]);
            mean(x, 0, 99 * want[i][0], want[i][1]);
            mean(x, 1, want[i][0], want[i][1]);
        }
        // Nobody has helped yet, however many calls there are.
        for (String kind : new String[] {"soft", "fair"}) {
            DeskRings x = Checks.office("plain 0 1 0 0;" + kind + " 0 5 0 10;call 0 9 5;call 1 9 9;call 1 9 9;call 0 9 4;");
            odds(x, 0, 1, 1);
            mean(x, 0, 5, 1);
            odds(x, 3, 0, 1);
        }
        DeskRings full = Checks.office("plain 0 1 0 10;".repeat(8) + "call 3 99 20;".repeat(10));
        odds(full, 9, 1, 1);
        mean(full, 9, 99, 1);
    }

    private static void promise12And13NoSuch() {
        DeskRings x = Checks.office(THREE);
        for (boolean under : new boolean[] {false, true}) {
            for (int n : NOT_THERE) {
                C.due("odds(" + n + ", 0, " + under + ")", x.odds(n, 0, under), -1);
                C.due("mean(" + n + ", 0, " + under + ")", x.mean(n, 0, under), -1);
            }
            for (int call : new int[] {-1, 1, 2, 9, 10, 32, LEAST, MOST}) {
                C.due("odds(0, " + call + ", " + under + ")", x.odds(0, call, under), -1);
                C.due("mean(0, " + call + ", " + under + ")", x.mean(0, call, under), -1);
            }
            DeskRings bare = Checks.office("plain 0 1 0 5;");
            C.due("no calls", bare.odds(0, 0, under), -1);
            C.due("no calls", bare.mean(0, 0, under), -1);
            DeskRings full = Checks.office("plain 0 1 0 5;" + "call 0 1 1;".repeat(10));
            C.due("call 9", full.odds(0, 9, under), under ? 2 : 1);
            C.due("call 9", full.mean(0, 9, under), under ? 2 : 1);
            C.due("call 10", full.odds(0, 10, under), -1);
            C.due("call 10", full.mean(0, 10, under), -1);
        }
    }

    private static void button(String there, long over, long under, int... row) {
        StringBuilder office = new StringBuilder();
        for (String each : there.isEmpty() ? new String[0] : there.split(" ")) {
            office.append("plain 0 1 0 ").append(each).append(';');
        }
        DeskRings x = Checks.office(office.toString());
        fraction("button of " + there, x.button(0, -1), x.button(0, -2), over, under);
        for (int k = 0; k < row.length; k++) {
            C.due("button(0, " + k + ") of " + there, x.button(0, k), row[k]);
        }
        for (int k = row.length; k <= 9; k++) {
            C.due("button(0, " + k + ") of " + there, x.button(0, k), -1);
        }
    }

    /** "the fewest are tried in the mean, the first by numbers". */
    private static void promise15Rows() {
        button("", 0, 1);
        button("0", 1, 1, 0);
        button("10", 1, 1, 0);
        button("5 5", 3, 2, 0, 1);
        button("0 0 0 0 0 0 0 0", 8, 1, 0, 1, 2, 3, 4, 5, 6, 7);
        button("10 10 10 10 10 10 10 10", 1, 1, 0, 1, 2, 3, 4, 5, 6, 7);
        button("1 1 1 1 1 1 1 1", 56953279L, 10000000L, 0, 1, 2, 3, 4, 5, 6, 7);
        button("0 1 2 3 4 5 6 7", 98719, 62500, 7, 6, 5, 4, 3, 2, 1, 0);
        button("7 6 5 4 3 2 1 0", 98719, 62500, 0, 1, 2, 3, 4, 5, 6, 7);
        // Behind one who is there for sure it does not matter: by numbers.
        button("9 9 9 9 9 9 9 10", 1, 1, 7, 0, 1, 2, 3, 4, 5, 6);
        button("0 1 2 10 9 10 4 5", 1, 1, 3, 0, 1, 2, 4, 5, 6, 7);
        button("1 10 2", 1, 1, 1, 0, 2);
        // As likely ones by numbers.
        button("5 5 7 5", 61, 40, 2, 0, 1, 3);
        button("0 9 0 9", 28, 25, 1, 3, 0, 2);
    }

    private static void promise15NoSuch() {
        DeskRings x = Checks.office(THREE);
        for (int n : NOT_THERE) {
            for (int k = -2; k <= 1; k++) {
                C.due("button(" + n + ", " + k + ")", x.button(n, k), -1);
            }
        }
        for (int k : new int[] {-3, -4, 3, 4, 7, 8, LEAST, MOST}) {
            C.due("button(0, " + k + ")", x.button(0, k), -1);
        }
    }

    private static void tied(String others, int want) {
        C.due("tied of '" + others + "'", Checks.office("plain 10 1 0 0;" + others).tied(0, 0), want);
    }

    /** "who lift at the same least ring, .. (bits; one alone, too)". */
    private static void promise33Ties() {
        tied("", 0);
        tied("deaf 10 1 0 0;", 0);
        tied("plain 21 1 0 0;", 0);
        tied("plain 20 1 0 0;", 2);
        tied("plain 10 12 0 0;".repeat(7), 254);
        tied("plain 10 12 0 0;".repeat(6) + "plain 20 11 0 0;", 128);
        tied("plain 0 5 0 0;plain 20 5 0 0;plain 10 5 0 0;", 14);
        tied("plain 0 5 0 0;plain 20 6 0 0;plain 10 5 0 0;", 10);
        tied("soft 1 5 0 0;fair 2 5 0 0;near 9 5 0 0;near 8 5 0 0;deaf 9 5 0 0;", 14);
        tied("near 9 5 0 0;near 11 5 0 0;", 6);
        tied("near 9 5 0 0;deaf 10 5 0 0;", 0);
        DeskRings x = Checks.office("plain 5 3 0 0;".repeat(8));
        for (int desk = 0; desk < 8; desk++) {
            C.due("all but his own at desk " + desk, x.tied(0, desk), 255 - (1 << desk));
        }
    }

    private static void promise33NoSuch() {
        DeskRings x = Checks.office(THREE);
        for (int n : NOT_THERE) {
            C.due("tied(" + n + ", 0)", x.tied(n, 0), -1);
        }
        for (int desk : NO_DESK) {
            C.due("tied(0, " + desk + ")", x.tied(0, desk), -1);
        }
        C.due("no desks", Checks.office("").tied(0, 0), -1);
    }

    private static void heads(DeskRings x, int k, long over, long under) {
        fraction("empty of " + k, x.empty(0, k, false), x.empty(0, k, true), over, under);
    }

    private static void promise34Heads() {
        heads(Checks.office(""), 0, 1, 1);
        long[][] halves = {{1, 256}, {1, 32}, {7, 64}, {7, 32}, {35, 128}, {7, 32}, {7, 64}, {1, 32}, {1, 256}};
        DeskRings x = Checks.office("plain 0 1 0 5;".repeat(8));
        for (int k = 0; k <= 8; k++) {
            heads(x, k, halves[k][0], halves[k][1]);
        }
        x = Checks.office("plain 0 1 0 9;".repeat(8));
        heads(x, 8, 43046721L, 100000000L);
        heads(x, 0, 1, 100000000L);
        x = Checks.office("plain 0 1 0 1;".repeat(8));
        heads(x, 8, 1, 100000000L);
        heads(x, 0, 43046721L, 100000000L);
        for (int sure = 0; sure <= 8; sure++) {
            x = Checks.office("deaf 0 1 0 10;".repeat(sure) + "near 0 1 0 0;".repeat(8 - sure));
            for (int k = 0; k <= 8; k++) {
                heads(x, k, k == sure ? 1 : 0, 1);
            }
        }
    }

    private static void promise34NoSuch() {
        for (int desks = 0; desks <= 8; desks++) {
            DeskRings x = Checks.office("plain 0 1 0 5;".repeat(desks));
            C.due("just all of " + desks, x.empty(0, desks, true), 1 << desks);
            for (boolean under : new boolean[] {false, true}) {
                for (int k = desks + 1; k <= 10; k++) {
                    C.due("empty(0, " + k + ", " + under + ") of " + desks, x.empty(0, k, under), -1);
                }
                for (int k : new int[] {-1, -2, LEAST, MOST}) {
                    C.due("empty(0, " + k + ", " + under + ") of " + desks, x.empty(0, k, under), -1);
                }
                for (int n : NOT_THERE) {
                    C.due("empty(" + n + ", 0, " + under + ")", x.empty(n, 0, under), -1);
                }
            }
        }
    }
}
