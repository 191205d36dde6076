/** Promises 19, 20, 25, 26, 28, 31, 35: lunch, rules, gifts, the curve, orders, duty, the best rule. */
public final class PlanTest {
    private static final Checks C = new Checks();
    private static final String OFFICE = "ear 4;fade 3;soft 0 3 5 5;plain 4 2 1 8;fair 6 1 2 2;"
            + "call 0 20 3;call 2 10 1;call 1 8 9;";

    public static void main(String[] args) {
        lunch();
        rules();
        given();
        curve();
        order();
        duty();
        best();
        C.finish();
    }

    private static void lunch() {
        DeskRings x = Checks.office(OFFICE);
        // Two away: 0 alone gets 20 + 2, 1 alone 17 + 8 (the other call has no patience), 2 alone 10 + 8.
        int[] much = {38, 38, 25, 0};
        int[] away = {0, 2, 5, 7};
        for (int n = 0; n < 4; n++) {
            C.due("lunch(0, " + n + ", false)", x.lunch(0, n, false), much[n]);
            C.due("lunch(0, " + n + ", true)", x.lunch(0, n, true), away[n]);
        }
        C.due("lunch(0, 4, false)", x.lunch(0, 4, false), -1);
        C.due("lunch(0, -1, true)", x.lunch(0, -1, true), -1);
        C.due("lunch(1, 0, true)", x.lunch(1, 0, true), -1);
        C.due("of several the least", Checks.office("plain 0 1 0 0;".repeat(4)).lunch(0, 2, true), 3);
        // As if each were the first: the fair one does not get tired.
        x = Checks.office("plain 0 1 0 0;fair 0 3 0 0;plain 30 1 0 0;" + "call 0 9 3;".repeat(3) + "call 2 50 1;");
        C.due("each by itself", x.lunch(0, 1, false), 77);
        C.due("all but desk 2", x.lunch(0, 2, false), 50);
        x = Checks.office("plain 0 2 0 0;fair 0 3 0 0;" + "call 0 9 3;".repeat(3) + "call 1 50 1;");
        C.due("all by the fair one", x.lunch(0, 1, false), 50 + 7 * 3);
        // The machine is quicker than he is.
        x = Checks.office("machine 2;plain 0 2 0 0;fair 0 3 0 0;" + "call 0 9 3;".repeat(3) + "call 1 50 1;");
        C.due("the machine", x.lunch(0, 1, false), 50);
    }

    private static void rule(DeskRings x, int rule, int... want) {
        for (int what = 0; what < 4; what++) {
            C.due("rule(0, " + rule + ", " + what + ")", x.rule(0, rule, what), want[what]);
        }
    }

    private static void rules() {
        DeskRings x = Checks.office(OFFICE);
        rule(x, 0, 25, 3, 1, 1);
        rule(x, 1, 14 + 2, 1 + 2, 1, 1);
        rule(x, 2, 17 + 5, 1 + 2, 1, 1);
        rule(x, 3, 38, 4, 2, 0);
        // The fair one lifts later and later, the soft one would sooner and sooner.
        rule(Checks.office("plain 0 1 0 0;fair 0 3 1 0;" + "call 0 9 4;".repeat(3)), 0, 7 + 6, 2, 2, 1);
        rule(Checks.office("plain 0 1 0 0;soft 0 3 1 0;" + "call 0 9 4;".repeat(4)), 0, 7 + 8 + 9 + 9, 4, 4, 0);
        // Deaf ones: not by rule 1, but by rules 2 and 3.
        DeskRings deaf = Checks.office("plain 5 1 0 0;deaf 4 1 7 0;plain 7 1 3 0;call 0 9 4;call 0 9 2;");
        rule(deaf, 0, 18, 6, 2, 0);
        rule(deaf, 1, 7, 3, 1, 1);
        rule(deaf, 2, 16, 14, 2, 0);
        rule(deaf, 3, 18, 10, 1, 0);
        // By turns from behind him who lifted last, round and round, even to himself again.
        rule(Checks.office("plain 5 1 0 0;plain 4 1 7 0;" + "call 0 9 4;".repeat(3)), 3, 27, 21, 3, 0);
        rule(Checks.office("plain 5 1 1 0;plain 4 1 2 0;plain 6 1 4 0;call 0 9 4;call 0 9 4;call 1 9 4;call 0 9 4;"), 3,
                36, 2 + 4 + 1 + 2, 2, 0);
        // The machine is quicker than rule 1, not than rule 2.
        DeskRings machine = Checks.office("machine 2;plain 5 1 1 0;plain 4 1 2 0;call 0 9 4;");
        rule(machine, 1, 0, 0, 0, 1);
        rule(machine, 2, 8, 2, 1, 0);
        // Rule 1: the nearest of all at ring 3; rule 2: the nearest, the least by number.
        DeskRings several = Checks.office("plain 5 1 1 0;plain 8 1 2 0;plain 4 1 3 0;plain 6 1 4 0;call 0 9 4;");
        rule(several, 1, 7, 3, 1, 0);
        rule(several, 2, 8, 3, 1, 0);
        rule(Checks.office(""), 3, 0, 0, 0, 0);
        C.due("rule(0, 4, 0)", x.rule(0, 4, 0), -1);
        C.due("rule(0, -1, 0)", x.rule(0, -1, 0), -1);
        C.due("rule(0, 0, 4)", x.rule(0, 0, 4), -1);
        C.due("rule(0, 0, -1)", x.rule(0, 0, -1), -1);
        C.due("rule(1, 0, 0)", x.rule(1, 0, 0), -1);
    }

    private static void given(DeskRings x, int worth, int... row) {
        C.due("given(0, -1)", x.given(0, -1), worth);
        for (int k = 0; k < row.length; k++) {
            C.due("given(0, " + k + ")", x.given(0, k), row[k]);
        }
        C.due("given(0, " + row.length + ")", x.given(0, row.length), -1);
    }

    private static void given() {
        given(Checks.office(OFFICE), 38, 0, 1, 2);
        given(Checks.office(""), 0);
        given(Checks.office("plain 0 1 0 0;call 0 3 1;call 0 9 1;call 0 9 1;"), 9, 8, 0, 8);
        given(Checks.office("plain 0 1 0 0;deaf 1 1 0 0;call 0 3 1;call 1 9 1;call 0 4 1;"), 13, 8, 0, 1);
        // What is worth nothing is given, too, if that is first by numbers.
        given(Checks.office("plain 0 1 0 0;deaf 1 1 0 0;call 1 0 1;call 1 5 1;"), 5, 0, 1);
        // Out of hearing.
        given(Checks.office("ear 2;plain 0 1 0 0;plain 3 1 0 0;call 0 3 1;call 0 9 1;"), 9, 8, 0);
        C.due("given(0, -2)", Checks.office(OFFICE).given(0, -2), -1);
        C.due("given(1, -1)", Checks.office(OFFICE).given(1, -1), -1);
    }

    private static void curve() {
        DeskRings x = Checks.office(OFFICE);
        int[] want = {38, 29, 14 + 4 + 2, 11 + 1, 8, 5, 2, 0, 0, 0, 0, 0};
        for (int ring = 1; ring <= 12; ring++) {
            C.due("curve(0, " + ring + ")", x.curve(0, ring), want[ring - 1]);
        }
        C.due("curve(0, 0)", x.curve(0, 0), -1);
        C.due("curve(0, 13)", x.curve(0, 13), -1);
        C.due("curve(1, 1)", x.curve(1, 1), -1);
        C.due("neither patience nor machine", Checks.office("machine 1;plain 0 1 0 0;call 0 9 1;").curve(0, 5), 5);
    }

    private static void order(DeskRings x, int n, int much, int... row) {
        C.due("order(0, " + n + ", -1)", x.order(0, n, -1), much);
        for (int k = 0; k < row.length; k++) {
            C.due("order(0, " + n + ", " + k + ")", x.order(0, n, k), row[k]);
        }
        C.due("order(0, " + n + ", " + n + ")", x.order(0, n, n), -1);
        C.due("order(0, " + n + ", -2)", x.order(0, n, -2), -1);
    }

    private static void order() {
        DeskRings x = Checks.office(OFFICE);
        order(x, 0, 0);
        order(x, 1, 17, 0);
        order(x, 2, 17, 0, 1);
        order(x, 3, 25, 0, 1, 2);
        C.due("order(0, 4, -1)", x.order(0, 4, -1), -1);
        C.due("order(0, -1, -1)", x.order(0, -1, -1), -1);
        C.due("order(1, 0, -1)", x.order(1, 0, -1), -1);
        // The fair one gets tired: what can't wait, first.
        x = Checks.office("fade 0;plain 0 1 0 0;fair 0 3 1 0;call 0 5 9;call 0 7 4;call 0 9 3;call 0 1 9;call 0 2 9;call 0 3 9;");
        order(x, 2, 12, 0, 1);
        order(x, 3, 21, 2, 1, 0);
        order(x, 5, 24, 2, 1, 0, 3, 4);
        C.due("order(0, 6, -1)", x.order(0, 6, -1), -1);
    }

    private static void duty(DeskRings x, int n, int much, int... row) {
        C.due("duty(0, " + n + ", -1)", x.duty(0, n, -1), much);
        for (int k = 0; k < row.length; k++) {
            C.due("duty(0, " + n + ", " + k + ")", x.duty(0, n, k), row[k]);
        }
        C.due("duty(0, " + n + ", " + n + ")", x.duty(0, n, n), -1);
        C.due("duty(0, " + n + ", -2)", x.duty(0, n, -2), -1);
    }

    private static void duty() {
        DeskRings x = Checks.office(OFFICE);
        duty(x, 0, 0);
        duty(x, 1, 1, 1);
        duty(x, 2, 3, 1, 2);
        duty(x, 3, 4, 1, 2, 1);
        duty(x, 20, 30, 1, 2, 1, 2, 1, 2, 1, 2, 1, 2, 1, 2, 1, 2, 1, 2, 1, 2, 1, 2);
        duty(Checks.office("plain 0 1 3 0;"), 3, 9, 0, 0, 0);
        duty(Checks.office("plain 0 1 3 0;plain 0 1 3 0;plain 0 1 2 0;"), 4, 10, 0, 2, 0, 2);
        duty(Checks.office(""), 0, 0);
        C.due("no ones", Checks.office("").duty(0, 1, -1), -1);
        C.due("no ones", Checks.office("").duty(0, 1, 0), -1);
        C.due("duty(0, 21, -1)", x.duty(0, 21, -1), -1);
        C.due("duty(0, -1, -1)", x.duty(0, -1, -1), -1);
        C.due("duty(1, 0, -1)", x.duty(1, 0, -1), -1);
    }

    private static void best() {
        C.due("best(0)", Checks.office(OFFICE).best(0), 3);
        C.due("of several the least", Checks.office("").best(0), 0);
        C.due("of several the least", Checks.office("plain 0 1 1 0;call 0 9 9;").best(0), 0);
        C.due("as told", Checks.office("plain 5 1 0 0;plain 8 1 0 0;deaf 4 1 9 0;call 0 9 9;call 0 9 9;").best(0), 0);
        C.due("rule 1", Checks.office("plain 5 1 0 0;plain 8 9 0 0;deaf 4 1 9 0;call 0 9 9;call 0 9 9;").best(0), 1);
        C.due("rule 2", Checks.office("plain 5 1 0 0;deaf 8 9 9 0;deaf 7 1 0 0;call 0 9 9;call 0 9 9;").best(0), 2);
        C.due("a loss", Checks.office("plain 5 1 0 0;plain 8 1 9 0;deaf 4 1 0 0;call 0 3 1;").best(0), 1);
        C.due("best(1)", Checks.office("").best(1), -1);
    }
}
