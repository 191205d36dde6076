/** Promises 6, 7, 16: offices, days, logs as told. */
public final class ToldTest {
    private static final Checks C = new Checks();

    public static void main(String[] args) {
        offices();
        days();
        logs();
        C.finish();
    }

    private static void offices() {
        DeskRings x = Checks.office("");
        int[] atFirst = {0, 0, 10, 0, 1};
        for (int what = 0; what < 5; what++) {
            C.due("office(0, " + what + ") of an empty text", x.office(0, what), atFirst[what]);
        }
        C.due("office(0, 10)", x.office(0, 10), -1);
        C.due("office(0, 60)", x.office(0, 60), -1);
        C.due("office(1, 0)", x.office(1, 0), -1);
        C.due("office(-1, 0)", x.office(-1, 0), -1);
        Checks.tell(x, 0, -1, "plain 1 2 3 4;ear 5;soft 11 12 13 10;fade 7;deaf 0 1 0 0;fair 30 11 20 9;call 4 99 20;"
                + "near 8 7 6 5;machine 6;call 0 0 1;ear 6;machine 20;fade 9;call 2 50 7;");
        int[] head = {5, 3, 6, 20, 9};
        for (int what = 0; what < 5; what++) {
            C.due("office(1, " + what + ")", x.office(1, what), head[what]);
        }
        int[][] rows = {{0, 1, 2, 3, 4}, {1, 11, 0, 30, 8}, {2, 12, 1, 11, 7}, {3, 13, 0, 20, 6}, {4, 10, 0, 9, 5},
            {4, 0, 2}, {99, 0, 50}, {20, 1, 7}};
        for (int row = 0; row < rows.length; row++) {
            for (int i = 0; i < 10; i++) {
                int want = i < rows[row].length ? rows[row][i] : -1;
                C.due("office(1, " + (10 * row + 10 + i) + ")", x.office(1, 10 * row + 10 + i), want);
            }
        }
        for (int what : new int[] {-1, 5, 9, 90, 92, 100, -10, 110, Integer.MIN_VALUE, Integer.MAX_VALUE}) {
            C.due("office(1, " + what + ")", x.office(1, what), -1);
        }
        DeskRings full = Checks.office("near 9 9 9 9;".repeat(8) + "call 7 9 9;".repeat(10));
        C.due("office(0, 57)", full.office(0, 57), 9);
        C.due("office(0, 58)", full.office(0, 58), -1);
        C.due("office(0, 18)", full.office(0, 18), -1);
        C.due("office(0, 69)", full.office(0, 69), 7);
        C.due("office(0, 89)", full.office(0, 89), 9);
    }

    private static void days() {
        DeskRings x = new DeskRings();
        C.due("deed(0, -1, 0) without", x.deed(0, -1, 0), -2);
        Checks.tell(x, 1, -1, "ring 9;away 7;back 6;read 5;");
        C.due("deed(0, -1, 0)", x.deed(0, -1, 0), 4);
        C.due("deed(0, -1, 1)", x.deed(0, -1, 1), -2);
        C.due("deed(-1, -1, 0)", x.deed(-1, -1, 0), -2);
        C.due("deed(1, 0, 0)", x.deed(1, 0, 0), -2);
        for (int k = 0; k < 4; k++) {
            C.due("deed(0, " + k + ", 0)", x.deed(0, k, 0), k);
            C.due("deed(0, " + k + ", 1)", x.deed(0, k, 1), k == 0 ? 9 : 8 - k);
            C.due("deed(0, " + k + ", 2)", x.deed(0, k, 2), -2);
            C.due("deed(0, " + k + ", -1)", x.deed(0, k, -1), -2);
        }
        C.due("deed(0, 4, 0)", x.deed(0, 4, 0), -2);
        C.due("deed(0, -2, 0)", x.deed(0, -2, 0), -2);
    }

    private static void logs() {
        DeskRings x = new DeskRings();
        C.due("fact(0, -1, 0) without", x.fact(0, -1, 0), -2);
        Checks.tell(x, 2, -1, "lifted 7 0 12;silent 3;");
        C.due("fact(0, -1, 0)", x.fact(0, -1, 0), 2);
        C.due("fact(0, -1, 1)", x.fact(0, -1, 1), -2);
        int[][] want = {{1, 7, 0, 12}, {0, 3, -1, -1}};
        for (int k = 0; k < 2; k++) {
            for (int what = 0; what < 4; what++) {
                C.due("fact(0, " + k + ", " + what + ")", x.fact(0, k, what), want[k][what]);
            }
            C.due("fact(0, " + k + ", 4)", x.fact(0, k, 4), -2);
            C.due("fact(0, " + k + ", -1)", x.fact(0, k, -1), -2);
        }
        C.due("fact(0, 2, 0)", x.fact(0, 2, 0), -2);
        C.due("fact(0, -2, 0)", x.fact(0, -2, 0), -2);
        C.due("fact(1, 0, 0)", x.fact(1, 0, 0), -2);
        C.due("fact(-1, 0, 0)", x.fact(-1, 0, 0), -2);
    }
}
