/** Promises 14 and 36 at their edges: nobody plays, one alone, seven, what it is just worth, which row is the last. */
public final class EdgeWaitingTest {
    private static final Checks C = new Checks();
    private static final int LEAST = Integer.MIN_VALUE;
    private static final int MOST = Integer.MAX_VALUE;
    private static final int[] NOT_THERE = {-1, -2, 1, 2, LEAST, MOST};
    private static final int[] NO_WORTH = {-1, 100, -2, 101, LEAST, MOST};
    private static final int[] EVERY_RING = {0, 1, 2, 3};

    public static void main(String[] args) {
        promise14NobodyPlays();
        promise14OneAlone();
        promise14WhoPlays();
        promise14OfSeveralTheNearest();
        promise14OrderOfFigures();
        promise14SevenPlay();
        promise14EveryRow();
        promise14NoSuch();
        promise36TheFirst();
        promise36NoSuch();
        C.finish();
    }

    private static void rests(String office, int desk, int worth, int quick, int... rows) {
        DeskRings x = Checks.office(office);
        String call = " of '" + office + "', desk " + desk + ", worth " + worth;
        C.due("how many" + call, x.rest(0, desk, worth, -1), rows.length);
        C.due("QUICK" + call, x.rest(0, desk, worth, -2), quick);
        for (int k = 0; k < rows.length; k++) {
            C.due("the row " + k + call, x.rest(0, desk, worth, k), rows[k]);
        }
        for (int k : new int[] {rows.length, rows.length + 1, -3, -4, LEAST, MOST, 1 << 14}) {
            C.due("no row " + k + call, x.rest(0, desk, worth, k), -1);
        }
    }

    /** One row, in which nobody says a thing; it is lifted in none. */
    private static void promise14NobodyPlays() {
        for (int worth : new int[] {0, 99}) {
            rests("plain 0 1 0 0;", 0, worth, -1, 0);
            rests("plain 0 1 0 0;plain 11 1 0 0;", 0, worth, -1, 0);
            rests("plain 0 1 0 0;deaf 0 1 0 0;deaf 1 1 0 0;", 0, worth, -1, 0);
        }
    }

    /** He lifts if it is worth more than it costs him, may if it is just worth it, and then at each ring that is as good. */
    private static void promise14OneAlone() {
        String desk = "plain 0 1 0 0;plain 0 9 ";
        rests(desk + "0 0;", 0, 0, 1, EVERY_RING);
        rests(desk + "1 0;", 0, 0, -1, 0);
        rests(desk + "1 0;", 0, 1, 1, 0, 1);
        rests(desk + "1 0;", 0, 2, 1, 1);
        rests(desk + "0 0;", 0, 1, 1, 1);
        rests(desk + "20 0;", 0, 19, -1, 0);
        rests(desk + "20 0;", 0, 20, 1, 0, 1);
        rests(desk + "20 0;", 0, 21, 1, 1);
        rests(desk + "20 0;fade 0;", 0, 20, 1, EVERY_RING);
        rests(desk + "20 0;fade 0;", 0, 21, 1, 1, 2, 3);
        rests(desk + "20 0;fade 0;", 0, 19, -1, 0);
        rests(desk + "0 0;fade 0;", 0, 99, 1, 1, 2, 3);
        rests(desk + "0 0;fade 0;", 0, 0, 1, EVERY_RING);
        rests(desk + "0 0;fade 9;", 0, 0, 1, EVERY_RING);
        rests(desk + "0 0;fade 9;", 0, 9, 1, 1);
        rests(desk + "0 0;fade 9;", 0, 99, 1, 1);
    }

    /** "each who HEARS it and is not DEAF", "its own ONE being away". */
    private static void promise14WhoPlays() {
        rests("plain 0 1 0 0;soft 10 1 0 0;", 0, 5, 1, 1);
        rests("plain 0 1 0 0;soft 11 1 0 0;", 0, 5, -1, 0);
        rests("deaf 0 1 0 0;fair 10 12 0 0;", 0, 5, 1, 1);
        rests("deaf 0 1 0 0;fair 10 12 0 0;", 1, 5, -1, 0);
        // A near one plays, whoever is nearer.
        rests("plain 0 1 0 0;deaf 0 1 0 0;near 1 1 0 0;", 0, 5, 1, 1);
        rests("plain 0 1 3 0;plain 0 1 9 0;", 1, 5, 1, 1);
        rests("plain 0 1 3 0;plain 0 1 9 0;", 0, 5, -1, 0);
    }

    /** At the same ring the nearest lifts, of these the least: the other would say never, or a ring at which he does not. */
    private static void promise14OfSeveralTheNearest() {
        // Costs 1 and 1, worth 9, fade 5: he who lifts wins 8; if he did not, the other at ring 2: 4.
        rests("fade 5;plain 0 1 0 0;plain 1 1 1 0;plain 1 1 1 0;", 0, 9, 1, 1, 4, 6, 7, 9, 13);
        // It costs nothing: both may say ring 1, if the least (the nearest) lifts.
        rests("fade 5;plain 0 1 0 0;plain 1 1 0 0;plain 1 1 0 0;", 0, 9, 1, 1, 4, 5, 6, 7, 9, 13);
        rests("fade 5;plain 0 1 0 0;plain 2 1 0 0;plain 1 1 0 0;", 0, 9, 1, 1, 4, 5, 6, 7, 9, 13);
        // The nearest has cost 0, the other 3: both at ring 1 rests by the nearest alone.
        rests("fade 5;plain 0 1 0 0;plain 2 1 3 0;plain 1 1 0 0;", 0, 9, 1, 1, 4, 5, 6, 7, 9, 13);
        rests("fade 5;plain 0 1 0 0;plain 1 1 3 0;plain 2 1 0 0;", 0, 9, 1, 1, 4, 6, 7, 9, 13);
    }

    /** "of all who play, the least one's the highest figure, in fours". */
    private static void promise14OrderOfFigures() {
        // Only he of cost 3 lifts; if another said a ring, too, he would rather leave it to him.
        rests("plain 0 1 0 0;plain 0 1 3 0;plain 0 1 20 0;", 0, 9, 1, 4);
        rests("plain 0 1 0 0;plain 0 1 20 0;plain 0 1 3 0;", 0, 9, 1, 1);
        rests("plain 0 1 0 0;plain 0 1 3 0;plain 0 1 20 0;plain 0 1 20 0;", 0, 9, 1, 16);
        rests("plain 0 1 3 0;plain 0 1 20 0;plain 0 1 0 0;plain 0 1 20 0;", 2, 9, 1, 16);
        rests("plain 0 1 3 0;" + "plain 0 1 20 0;".repeat(7), 7, 9, 1, 4096);
        rests("plain 0 1 20 0;".repeat(7) + "plain 0 1 3 0;", 0, 9, 1, 1);
        // It costs him nothing, so that the dear one may say what he likes, if he does not lift by it.
        rests("plain 0 1 0 0;plain 0 1 0 0;plain 0 1 20 0;", 0, 9, 1, 4, 5, 6, 7);
        rests("plain 0 1 0 0;plain 0 1 20 0;plain 0 1 0 0;", 0, 9, 1, 1, 9, 13);
    }

    /** The row of the oracle, which tries all of them. */
    private static void likeTheOracle(String office, int desk, int worth) {
        DeskRings x = Checks.office(office);
        Oracle o = new Oracle(x, 0);
        java.util.List<Integer> rows = o.rests(desk, worth, 8);
        C.due("how many of '" + office + "'", x.rest(0, desk, worth, -1), rows.size());
        C.due("QUICK of '" + office + "'", x.rest(0, desk, worth, -2), o.quick(desk, worth, 8));
        for (int k = 0; k < rows.size(); k += 1 + rows.size() / 150) {
            C.due("the row " + k + " of '" + office + "'", x.rest(0, desk, worth, k), rows.get(k));
        }
        if (!rows.isEmpty()) {
            C.due("the last row of '" + office + "'", x.rest(0, desk, worth, rows.size() - 1), rows.get(rows.size() - 1));
        }
        C.due("no row of '" + office + "'", x.rest(0, desk, worth, rows.size()), -1);
    }

    private static void promise14SevenPlay() {
        String seven = "plain 5 1 0 0;".repeat(8);
        likeTheOracle(seven, 7, 0);
        likeTheOracle(seven, 0, 99);
        likeTheOracle(seven + "fade 0;", 3, 0);
        likeTheOracle(seven + "fade 0;", 3, 99);
        likeTheOracle("plain 5 1 20 0;".repeat(8) + "fade 0;", 3, 20);
        likeTheOracle("plain 5 1 20 0;".repeat(8), 3, 19);
        DeskRings x = Checks.office(seven + "fade 0;");
        // Worth nothing and for nothing every row rests: four to the seventh.
        C.due("every row", x.rest(0, 0, 0, -1), 16384);
        C.due("the last row", x.rest(0, 0, 0, 16383), 16383);
        C.due("no row behind it", x.rest(0, 0, 0, 16384), -1);
        C.due("the first row", x.rest(0, 0, 0, 0), 0);
        // For 5 all but the row of never alone.
        C.due("all rows but one", x.rest(0, 0, 5, -1), 16383);
        C.due("the first of them", x.rest(0, 0, 5, 0), 1);
    }

    /** Two and three who play, costs and worths just below, at and above each other. */
    private static void promise14EveryRow() {
        for (int fade : new int[] {0, 1, 2, 9}) {
            for (int worth = 0; worth <= 4; worth++) {
                for (int cost = 0; cost <= 4; cost++) {
                    for (int other = 0; other <= 4; other++) {
                        likeTheOracle("plain 3 1 0 0;plain 4 1 " + cost + " 0;plain 2 1 " + other + " 0;fade " + fade + ";",
                                0, worth);
                        likeTheOracle("plain 4 1 " + cost + " 0;plain 3 1 0 0;plain 5 1 " + other + " 0;fade " + fade + ";",
                                1, worth);
                    }
                }
            }
        }
        likeTheOracle("plain 3 1 0 0;plain 4 1 2 0;plain 2 1 1 0;plain 3 1 0 0;fade 1;", 0, 2);
    }

    private static void promise14NoSuch() {
        DeskRings x = Checks.office("plain 0 1 0 0;plain 0 1 0 0;plain 0 1 0 0;");
        for (int k = -2; k <= 0; k++) {
            for (int n : NOT_THERE) {
                C.due("rest(" + n + ", 0, 9, " + k + ")", x.rest(n, 0, 9, k), -1);
            }
            for (int desk : new int[] {-1, -2, 3, 4, 8, 32, LEAST, MOST}) {
                C.due("rest(0, " + desk + ", 9, " + k + ")", x.rest(0, desk, 9, k), -1);
            }
            for (int worth : NO_WORTH) {
                C.due("rest(0, 0, " + worth + ", " + k + ")", x.rest(0, 0, worth, k), -1);
            }
            C.due("no desks", Checks.office("").rest(0, 0, 9, k), -1);
        }
        C.due("worth 0", x.rest(0, 0, 0, -2), 1);
        C.due("worth 99", x.rest(0, 0, 99, -2), 1);
    }

    /** "just the first k by numbers sat there (all, if they are not so many)". */
    private static void promise36TheFirst() {
        // Those who play: 1 (9), 3 (20), 5 (3), 7 (9); 2 is deaf, 4 too far off, 6 is the desk.
        String office = "plain 21 1 0 0;plain 5 1 9 0;deaf 5 1 0 0;plain 5 1 20 0;plain 26 1 0 0;plain 5 1 3 0;plain 10 1 0 0;"
                + "plain 5 1 9 0;";
        DeskRings x = Checks.office(office);
        for (int k = 0; k <= 8; k++) {
            C.due("fewer of " + k + ", worth 2", x.fewer(0, 6, 2, k), -1);
            C.due("fewer of " + k + ", worth 3", x.fewer(0, 6, 3, k), k < 3 ? -1 : 1);
            C.due("fewer of " + k + ", worth 8", x.fewer(0, 6, 8, k), k < 3 ? -1 : 1);
            C.due("fewer of " + k + ", worth 9", x.fewer(0, 6, 9, k), k < 1 ? -1 : 1);
            C.due("fewer of " + k + ", worth 99", x.fewer(0, 6, 99, k), k < 1 ? -1 : 1);
            C.due("fewer of " + k + ", desk 4, where 0 alone plays", x.fewer(0, 4, 99, k), k < 1 ? -1 : 1);
        }
        for (int k = 0; k <= 8; k++) {
            C.due("nobody plays", Checks.office("plain 0 1 0 0;deaf 0 1 0 0;").fewer(0, 0, 99, k), -1);
            C.due("worth 0, for nothing", Checks.office("plain 0 1 0 0;".repeat(8)).fewer(0, 7, 0, k), k < 1 ? -1 : 1);
            String last = "plain 0 1 20 0;".repeat(7) + "plain 0 1 1 0;";
            C.due("the seventh alone lifts", Checks.office(last).fewer(0, 0, 5, k), k < 7 ? -1 : 1);
        }
    }

    private static void promise36NoSuch() {
        DeskRings x = Checks.office("plain 0 1 0 0;plain 0 1 0 0;plain 0 1 0 0;");
        C.due("fewer(0, 0, 9, 8)", x.fewer(0, 0, 9, 8), 1);
        for (int k : new int[] {-1, 9, -2, 10, LEAST, MOST}) {
            C.due("fewer(0, 0, 9, " + k + ")", x.fewer(0, 0, 9, k), -1);
        }
        for (int worth : NO_WORTH) {
            C.due("fewer(0, 0, " + worth + ", 2)", x.fewer(0, 0, worth, 2), -1);
        }
        for (int n : NOT_THERE) {
            C.due("fewer(" + n + ", 0, 9, 2)", x.fewer(n, 0, 9, 2), -1);
        }
        for (int desk : new int[] {-1, -2, 3, 4, 8, 32, LEAST, MOST}) {
            C.due("fewer(0, " + desk + ", 9, 2)", x.fewer(0, desk, 9, 2), -1);
        }
        C.due("no desks", Checks.office("").fewer(0, 0, 9, 2), -1);
    }
}
