/** Promises 6, 7, 16 at their edges: what is told back of none, of one, of as many as may be, and of what is not there. */
public final class EdgeToldTest {
    private static final Checks C = new Checks();
    private static final int LEAST = Integer.MIN_VALUE;
    private static final int MOST = Integer.MAX_VALUE;
    private static final int[] NOT_THERE = {-1, -2, 2, 3, LEAST, MOST};

    public static void main(String[] args) {
        promise6EveryWhat();
        promise6LeastAndGreatestValues();
        promise6NoSuchOffice();
        promise7EveryDeed();
        promise7NoSuchDay();
        promise16EveryFact();
        promise16NoSuchLog();
        C.finish();
    }

    private static String desks(int n) {
        StringBuilder text = new StringBuilder();
        String[] kinds = {"near", "fair", "deaf", "soft", "plain"};
        for (int d = 0; d < n; d++) {
            text.append(kinds[d % 5]).append(' ').append(30 - d).append(' ').append(12 - d).append(' ').append(20 - d)
                    .append(' ').append(10 - d).append(';');
        }
        return text.toString();
    }

    private static String calls(int n, int desks) {
        StringBuilder text = new StringBuilder();
        for (int c = 0; c < n; c++) {
            text.append("call ").append(c % desks).append(' ').append(99 - c).append(' ').append(20 - c).append(';');
        }
        return text.toString();
    }

    private static int want(int what, int desks, int calls) {
        int[] head = {desks, calls, 10, 0, 1};
        if (what >= 0 && what < 5) {
            return head[what];
        }
        int at = Math.floorMod(what, 10);
        int row = Math.floorDiv(what, 10);
        if (row >= 1 && row <= 5 && at < desks) {
            return new int[] {4 - at % 5, 30 - at, 12 - at, 20 - at, 10 - at}[row - 1];
        }
        if (row >= 6 && row <= 8 && at < calls) {
            return new int[] {at % desks, 99 - at, 20 - at}[row - 6];
        }
        return -1;
    }

    private static void promise6EveryWhat() {
        int[][] sizes = {{0, 0}, {1, 0}, {1, 1}, {1, 10}, {7, 9}, {8, 0}, {8, 9}, {8, 10}};
        for (int[] size : sizes) {
            DeskRings x = Checks.office(desks(size[0]) + calls(size[1], size[0]));
            for (int what = -110; what <= 210; what++) {
                C.due("office(0, " + what + ") of " + size[0] + " desks, " + size[1] + " calls", x.office(0, what),
                        want(what, size[0], size[1]));
            }
            for (int what : new int[] {LEAST, LEAST + 1, MOST, MOST - 1, 1 << 16, -(1 << 16), 1000010, 65536 + 10}) {
                C.due("office(0, " + what + ")", x.office(0, what), -1);
            }
        }
    }

    private static void promise6LeastAndGreatestValues() {
        DeskRings x = Checks.office("plain 0 1 0 0;near 30 12 20 10;call 0 0 1;call 1 99 20;ear 0;machine 0;fade 0;");
        int[][] want = {{2, 0}, {3, 0}, {4, 0}, {10, 0}, {11, 4}, {20, 0}, {21, 30}, {30, 1}, {31, 12}, {40, 0},
            {41, 20}, {50, 0}, {51, 10}, {60, 0}, {61, 1}, {70, 0}, {71, 99}, {80, 1}, {81, 20}};
        for (int[] row : want) {
            C.due("office(0, " + row[0] + ")", x.office(0, row[0]), row[1]);
        }
        x = Checks.office("ear 30;machine 20;fade 9;");
        C.due("EAR 30", x.office(0, 2), 30);
        C.due("MACHINE 20", x.office(0, 3), 20);
        C.due("FADE 9", x.office(0, 4), 9);
    }

    private static void promise6NoSuchOffice() {
        DeskRings x = new DeskRings();
        for (int told = 0; told <= 2; told++) {
            for (int what : new int[] {0, 2, 4, 10, 60, 5, -1}) {
                for (int office : NOT_THERE) {
                    C.due("office(" + office + ", " + what + ")", x.office(office, what), -1);
                }
                for (int office = told; office < 3; office++) {
                    C.due("office(" + office + ", " + what + ")", x.office(office, what), -1);
                }
            }
            for (int office = 0; office < told; office++) {
                C.due("ear of office " + office, x.office(office, 2), 3 + office);
                C.due("desks of office " + office, x.office(office, 0), office);
            }
            Checks.tell(x, 0, -1, "plain 1 1 1 1;".repeat(told % 2) + "ear " + (3 + told) + ";");
        }
    }

    private static void promise7EveryDeed() {
        String[] words = {"read", "back", "away", "ring"};
        for (int many : new int[] {0, 1, 2, 39, 40}) {
            StringBuilder text = new StringBuilder();
            for (int k = 0; k < many; k++) {
                text.append(words[k % 4]).append(' ').append(k % 8).append(';');
            }
            DeskRings x = new DeskRings();
            C.due("a day of " + many, Checks.tell(x, 1, -1, text.toString()), 0);
            C.due("how many", x.deed(0, -1, 0), many);
            for (int k = -3; k <= 42; k++) {
                boolean there = k >= 0 && k < many;
                if (k != -1) {
                    C.due("deed(0, " + k + ", 0) of " + many, x.deed(0, k, 0), there ? 3 - k % 4 : -2);
                }
                C.due("deed(0, " + k + ", 1) of " + many, x.deed(0, k, 1), there ? k % 8 : -2);
                for (int what : new int[] {-1, 2, LEAST, MOST}) {
                    C.due("deed(0, " + k + ", " + what + ")", x.deed(0, k, what), -2);
                }
            }
            for (int k : new int[] {LEAST, MOST, LEAST + 1, MOST - 1}) {
                C.due("deed(0, " + k + ", 0)", x.deed(0, k, 0), -2);
                C.due("deed(0, " + k + ", 1)", x.deed(0, k, 1), -2);
            }
        }
        DeskRings x = Checks.officeAndDay("", "ring 0;ring 9;away 0;away 7;");
        int[] numbers = {0, 9, 0, 7};
        for (int k = 0; k < 4; k++) {
            C.due("the least and the greatest number", x.deed(0, k, 1), numbers[k]);
        }
    }

    private static void promise7NoSuchDay() {
        DeskRings x = Checks.officeAndDay("", "away 1;");
        for (int day : NOT_THERE) {
            for (int k = -1; k <= 1; k++) {
                C.due("deed(" + day + ", " + k + ", 0)", x.deed(day, k, 0), -2);
            }
        }
        C.due("deed(1, -1, 0)", x.deed(1, -1, 0), -2);
        Checks.tell(x, 1, -1, "back 2;back 3;");
        C.due("deed(1, -1, 0)", x.deed(1, -1, 0), 2);
        C.due("deed(0, -1, 0)", x.deed(0, -1, 0), 1);
        C.due("deed(1, 1, 1)", x.deed(1, 1, 1), 3);
        C.due("deed(0, 1, 1)", x.deed(0, 1, 1), -2);
        C.due("deed(2, 0, 0)", x.deed(2, 0, 0), -2);
    }

    private static void promise16EveryFact() {
        for (int many : new int[] {0, 1, 2, 7, 8}) {
            StringBuilder text = new StringBuilder();
            for (int k = 0; k < many; k++) {
                text.append(k % 2 == 0 ? "lifted " + k + " " + (7 - k) + " " + (12 - k) : "silent " + k).append(';');
            }
            DeskRings x = new DeskRings();
            C.due("a log of " + many, Checks.tell(x, 2, -1, text.toString()), 0);
            C.due("how many", x.fact(0, -1, 0), many);
            for (int k = -3; k <= 10; k++) {
                boolean there = k >= 0 && k < many;
                boolean lifted = k % 2 == 0;
                int[] want = {lifted ? 1 : 0, k, lifted ? 7 - k : -1, lifted ? 12 - k : -1};
                for (int what = k == -1 ? 1 : 0; what < 4; what++) {
                    C.due("fact(0, " + k + ", " + what + ") of " + many, x.fact(0, k, what), there ? want[what] : -2);
                }
                for (int what : new int[] {-1, 4, -2, LEAST, MOST}) {
                    C.due("fact(0, " + k + ", " + what + ")", x.fact(0, k, what), -2);
                }
            }
            for (int k : new int[] {LEAST, MOST, LEAST + 1, MOST - 1}) {
                C.due("fact(0, " + k + ", 0)", x.fact(0, k, 0), -2);
            }
        }
        DeskRings x = Checks.officeAndLog("", "lifted 0 7 1;lifted 7 0 12;silent 0;silent 7;");
        int[][] want = {{1, 0, 7, 1}, {1, 7, 0, 12}, {0, 0, -1, -1}, {0, 7, -1, -1}};
        for (int k = 0; k < 4; k++) {
            for (int what = 0; what < 4; what++) {
                C.due("the least and the greatest number", x.fact(0, k, what), want[k][what]);
            }
        }
    }

    private static void promise16NoSuchLog() {
        DeskRings x = Checks.officeAndLog("", "silent 1;");
        for (int log : NOT_THERE) {
            for (int k = -1; k <= 1; k++) {
                C.due("fact(" + log + ", " + k + ", 0)", x.fact(log, k, 0), -2);
            }
        }
        C.due("fact(1, -1, 0)", x.fact(1, -1, 0), -2);
        Checks.tell(x, 2, -1, "silent 2;silent 3;");
        C.due("fact(1, -1, 0)", x.fact(1, -1, 0), 2);
        C.due("fact(0, -1, 0)", x.fact(0, -1, 0), 1);
        C.due("fact(1, 1, 1)", x.fact(1, 1, 1), 3);
        C.due("fact(0, 1, 1)", x.fact(0, 1, 1), -2);
        C.due("fact(2, 0, 0)", x.fact(2, 0, 0), -2);
    }
}
