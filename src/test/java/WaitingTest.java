/** Promises 14 and 36: the game of waiting for each other. */
public final class WaitingTest {
    private static final Checks C = new Checks();

    public static void main(String[] args) {
        rests();
        fewer();
        C.finish();
    }

    private static void rests(DeskRings x, int desk, int worth, int quick, int... rows) {
        String call = "rest(0, " + desk + ", " + worth + ", ";
        C.due(call + "-1)", x.rest(0, desk, worth, -1), rows.length);
        C.due(call + "-2)", x.rest(0, desk, worth, -2), quick);
        for (int k = 0; k < rows.length; k++) {
            C.due(call + k + ")", x.rest(0, desk, worth, k), rows[k]);
        }
        C.due(call + rows.length + ")", x.rest(0, desk, worth, rows.length), -1);
    }

    private static void rests() {
        DeskRings x = Checks.office("ear 4;fade 3;soft 0 3 5 5;plain 4 2 1 8;fair 6 1 2 2;");
        rests(x, 0, 9, 1, 1);
        rests(x, 1, 9, 1, 1, 4, 7, 9, 13);
        rests(x, 1, 3, 1, 1, 9, 13);
        // Too dear for both: nobody lifts.
        rests(x, 1, 1, -1, 0);
        // As dear as it is worth: lifting or not is the same to him.
        rests(x, 1, 2, 1, 0, 1, 9, 13);
        // Nobody plays.
        rests(Checks.office("plain 0 1 0 0;"), 0, 9, -1, 0);
        rests(Checks.office("plain 0 1 0 0;deaf 0 1 0 0;"), 0, 9, -1, 0);
        // Without fade and cost every ring is as good as any, none but never loses.
        rests(Checks.office("fade 0;plain 0 1 0 0;plain 0 1 0 0;"), 0, 9, 1, 1, 2, 3);
        // Worth nothing: later is as good, too.
        rests(Checks.office("plain 0 1 0 0;plain 0 1 0 0;"), 0, 0, 1, 0, 1, 2, 3);
        for (int worth : new int[] {-1, 100}) {
            C.due("another worth", x.rest(0, 0, worth, -1), -1);
        }
        C.due("desk 3", x.rest(0, 3, 9, -1), -1);
        C.due("desk -1", x.rest(0, -1, 9, -1), -1);
        C.due("office 1", x.rest(1, 0, 9, -1), -1);
        C.due("k -3", x.rest(0, 0, 9, -3), -1);
        // Seven play: each may lift; each may lift at each ring, or nobody, since it is just worth its cost.
        sevenPlay(Checks.office("plain 5 1 1 1;".repeat(8)), 99);
        sevenPlay(Checks.office("fade 0;" + "plain 5 1 5 1;".repeat(8)), 5);
        sevenPlay(Checks.office("fade 0;" + "plain 5 1 0 1;".repeat(8)), 5);
    }

    private static void sevenPlay(DeskRings x, int worth) {
        Oracle o = new Oracle(x, 0);
        java.util.List<Integer> rows = o.rests(7, worth, 8);
        C.due("how many of seven", x.rest(0, 7, worth, -1), rows.size());
        for (int k = 0; k < rows.size(); k += 1 + k / 20) {
            C.due("rest " + k + " of seven", x.rest(0, 7, worth, k), rows.get(k));
        }
        C.due("rest beyond", x.rest(0, 7, worth, rows.size()), -1);
        C.due("quick of seven", x.rest(0, 7, worth, -2), o.quick(7, worth, 8));
    }

    private static void fewer() {
        DeskRings x = Checks.office("ear 4;fade 0;plain 5 1 0 0;plain 6 1 9 0;deaf 7 1 0 0;plain 4 1 3 0;");
        C.due("none sits there", x.fewer(0, 0, 5, 0), -1);
        C.due("the first alone: too dear", x.fewer(0, 0, 5, 1), -1);
        C.due("the second, too", x.fewer(0, 0, 5, 2), 1);
        C.due("all", x.fewer(0, 0, 5, 8), 1);
        C.due("all by rest", x.rest(0, 0, 5, -2), 1);
        C.due("k 9", x.fewer(0, 0, 5, 9), -1);
        C.due("k -1", x.fewer(0, 0, 5, -1), -1);
        C.due("worth -1", x.fewer(0, 0, -1, 2), -1);
        C.due("worth 100", x.fewer(0, 0, 100, 2), -1);
        C.due("worth 99", x.fewer(0, 0, 99, 2), 1);
        C.due("desk 4", x.fewer(0, 4, 5, 2), -1);
        C.due("desk -1", x.fewer(0, -1, 5, 2), -1);
        C.due("office 1", x.fewer(1, 0, 5, 2), -1);
    }
}
