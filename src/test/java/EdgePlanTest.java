/** Promises 19, 20, 25, 26, 28, 31, 35 at their edges: none or all away, each rule's ring, none or all given, ties. */
public final class EdgePlanTest {
    private static final Checks C = new Checks();
    private static final int LEAST = Integer.MIN_VALUE;
    private static final int MOST = Integer.MAX_VALUE;
    private static final int[] NOT_THERE = {-1, -2, 1, 2, LEAST, MOST};
    private static final String DESK = "plain 0 1 0 0;";

    public static void main(String[] args) {
        promise19NoneAndAll();
        promise19OfSeveralTheLeast();
        promise19EachByItself();
        promise19NoSuch();
        promise20RingsOfRules();
        promise20WhoHears();
        promise20OfSeveral();
        promise20ByTurns();
        promise20AsOnADay();
        promise20NothingRings();
        promise20NoSuch();
        promise25NoneAndAll();
        promise25FirstByNumbers();
        promise25NoSuch();
        promise26EveryRing();
        promise28Orders();
        promise28NoSuch();
        promise31OneAndTwo();
        promise31FirstByNumbers();
        promise31NoSuch();
        promise35OfSeveralTheLeast();
        C.finish();
    }

    private static void lunch(String office, int n, int much, int away) {
        DeskRings x = Checks.office(office);
        C.due("lunch(0, " + n + ", false) of '" + office + "'", x.lunch(0, n, false), much);
        C.due("lunch(0, " + n + ", true) of '" + office + "'", x.lunch(0, n, true), away);
    }

    private static void promise19NoneAndAll() {
        lunch("", 0, 0, 0);
        lunch("", 1, -1, -1);
        for (int desks = 1; desks <= 8; desks++) {
            String office = "plain 0 3 0 0;".repeat(desks);
            for (int n = 0; n <= 9; n++) {
                boolean can = n <= desks;
                // Without calls all are as good: the least bits.
                lunch(office, n, can ? 0 : -1, can ? (1 << n) - 1 : -1);
                // His own call he lifts at ring 1, another lifts it at ring 3, all away nobody does.
                int much = n == desks ? 0 : 10;
                int away = n == desks ? (1 << n) - 1 : n == 0 ? 0 : (1 << n + 1) - 2;
                lunch(office + "call 0 10 9;", n, can ? much : -1, can ? away : -1);
            }
        }
        lunch("plain 0 3 0 0;plain 0 3 0 0;call 0 10 9;call 1 20 9;", 1, 28, 1);
        lunch("plain 0 1 0 0;plain 0 1 0 0;call 0 10 9;call 1 20 9;", 1, 30, 1);
        lunch("plain 0 1 0 0;plain 0 3 0 0;call 0 10 9;call 1 20 9;", 1, 30, 2);
        lunch(DESK.repeat(8) + "call 3 99 1;".repeat(10), 0, 990, 0);
        lunch(DESK.repeat(8) + "call 3 99 1;".repeat(10), 7, 990, 127);
    }

    private static void promise19OfSeveralTheLeast() {
        String four = DESK.repeat(4);
        lunch(four + "call 1 9 9;", 1, 9, 1);
        lunch(four + "call 1 9 9;", 2, 9, 3);
        lunch(four + "call 1 9 9;", 3, 9, 7);
        lunch(four + "call 1 9 1;ear 0;", 3, 9, 7);
        lunch("plain 0 1 0 0;plain 1 1 0 0;plain 2 1 0 0;call 1 9 1;ear 0;", 2, 9, 5);
        lunch("plain 0 1 0 0;plain 1 1 0 0;plain 2 1 0 0;call 0 9 1;ear 0;", 2, 9, 6);
    }

    /** As if each call were the first; patience, machine and worth as ever. */
    private static void promise19EachByItself() {
        // The deaf one at desk 0 lifts no other desk, so that he is the one who goes.
        lunch("deaf 0 1 0 0;soft 10 4 0 0;call 1 99 1;call 0 20 9;call 0 20 9;call 0 20 9;", 1, 99 + 51, 1);
        lunch("deaf 0 1 0 0;fair 10 4 0 0;call 1 99 1;call 0 20 4;call 0 20 4;call 0 20 4;", 1, 99 + 51, 1);
        lunch("deaf 0 1 0 0;soft 10 4 0 0;call 0 20 9;call 1 99 1;call 1 99 1;call 1 99 1;", 1, 3 * 99 + 17, 1);
        lunch("deaf 0 1 0 0;fair 10 4 0 0;call 0 20 4;call 1 99 1;call 1 99 1;call 1 99 1;", 1, 3 * 99 + 17, 1);
        lunch("deaf 0 1 0 0;fair 11 4 0 0;call 1 99 1;call 0 20 4;call 0 20 4;call 0 20 4;", 1, 99, 1);
        for (int patience = 1; patience <= 20; patience++) {
            for (int machine = 0; machine <= 20; machine++) {
                boolean inTime = patience >= 6 && (machine == 0 || machine >= 6);
                lunch("deaf 0 1 0 0;plain 0 6 0 0;fade 2;call 1 99 1;call 0 15 " + patience + ";machine " + machine + ";",
                        1, inTime ? 99 + 5 : 99, 1);
            }
        }
        // Just nothing is left, and not less.
        for (int worth : new int[] {0, 9, 10, 11}) {
            lunch("deaf 0 1 0 0;plain 0 6 0 0;fade 2;call 1 99 1;call 0 " + worth + " 9;", 1, worth == 11 ? 100 : 99, 1);
        }
    }

    private static void promise19NoSuch() {
        DeskRings x = Checks.office(DESK.repeat(8) + "call 0 9 9;");
        for (boolean who : new boolean[] {false, true}) {
            C.due("lunch(0, 8, " + who + ")", x.lunch(0, 8, who), who ? 255 : 0);
            for (int n : new int[] {-1, 9, -2, 10, 32, LEAST, MOST}) {
                C.due("lunch(0, " + n + ", " + who + ")", x.lunch(0, n, who), -1);
            }
            for (int office : NOT_THERE) {
                C.due("lunch(" + office + ", 0, " + who + ")", x.lunch(office, 0, who), -1);
            }
        }
    }

    private static void rule(String office, int rule, int... want) {
        DeskRings x = Checks.office(office);
        for (int what = 0; what < 4; what++) {
            C.due("rule(0, " + rule + ", " + what + ") of '" + office + "'", x.rule(0, rule, what), want[what]);
        }
    }

    /** As told, at ring 3, at ring 2, at ring 1; "PATIENCE and MACHINE as above". */
    private static void promise20RingsOfRules() {
        int[] rings = {5, 3, 2, 1};
        for (int rule = 0; rule < 4; rule++) {
            for (int patience = 1; patience <= 20; patience++) {
                for (int machine = 0; machine <= 20; machine++) {
                    boolean inTime = rings[rule] <= patience && (machine == 0 || rings[rule] <= machine);
                    String office = "plain 0 1 9 0;plain 0 5 4 0;fade 7;call 0 50 " + patience + ";machine " + machine + ";";
                    rule(office, rule, inTime ? 50 - 7 * (rings[rule] - 1) : 0, inTime ? 4 : 0, inTime ? 1 : 0, inTime ? 0 : 1);
                }
            }
            // 0 at least.
            rule("plain 0 1 9 0;plain 0 5 4 0;fade 9;call 0 8 20;", rule, rule == 3 ? 8 : 0, 4, 1, 0);
        }
    }

    /** Who is EAR apart hears it, DEAF or not; his own desk nobody lifts. */
    private static void promise20WhoHears() {
        for (int rule = 0; rule < 4; rule++) {
            rule("plain 0 1 9 0;plain 10 1 4 0;fade 0;call 0 50 20;", rule, 50, 4, 1, 0);
            rule("plain 0 1 9 0;plain 11 1 4 0;fade 0;call 0 50 20;", rule, 0, 0, 0, 1);
            rule("plain 0 1 9 0;fade 0;call 0 50 20;", rule, 0, 0, 0, 1);
            rule("plain 0 1 9 0;fade 0;" + "call 0 50 20;".repeat(10), rule, 0, 0, 0, 10);
            boolean deafToo = rule > 1;
            rule("plain 0 1 9 0;deaf 10 1 4 0;fade 0;call 0 50 20;", rule, deafToo ? 50 : 0, deafToo ? 4 : 0,
                    deafToo ? 1 : 0, deafToo ? 0 : 1);
            rule("plain 0 1 9 0;deaf 11 1 4 0;fade 0;call 0 50 20;", rule, 0, 0, 0, 1);
        }
    }

    private static void promise20OfSeveral() {
        // Rule 1: of those who are not deaf the nearest, of these the least.
        rule("fade 0;plain 10 1 0 0;deaf 10 1 1 0;plain 12 1 2 0;plain 9 1 3 0;plain 11 1 4 0;call 0 5 9;", 1, 5, 3, 1, 0);
        rule("fade 0;plain 10 1 0 0;deaf 10 1 1 0;plain 12 1 2 0;plain 11 1 3 0;plain 9 1 4 0;call 0 5 9;", 1, 5, 3, 1, 0);
        rule("fade 0;plain 10 1 0 0;near 12 1 1 0;plain 9 12 2 0;call 0 5 9;", 1, 5, 2, 1, 0);
        // Rule 2: the nearest, deaf or not, of several the least.
        rule("fade 0;plain 10 1 0 0;plain 12 1 2 0;deaf 9 1 3 0;plain 11 1 4 0;call 0 5 9;", 2, 5, 3, 1, 0);
        rule("fade 0;plain 10 1 0 0;plain 12 1 2 0;plain 9 1 3 0;deaf 11 1 4 0;call 0 5 9;", 2, 5, 3, 1, 0);
        rule("fade 0;plain 10 1 0 0;plain 11 1 2 0;deaf 10 1 3 0;call 0 5 9;", 2, 5, 3, 1, 0);
        // The one at desk 0 hears, too.
        for (int rule = 0; rule < 4; rule++) {
            rule("fade 0;plain 11 3 7 0;plain 10 1 0 0;call 1 5 9;", rule, 5, 7, 1, 0);
            rule("fade 0;plain 11 3 7 0;plain 10 1 0 0;plain 9 3 2 0;call 1 5 9;", rule, 5, 7, 1, 0);
        }
        // Rule 0: as told, at whichever desk it rings.
        rule("fade 1;plain 11 3 7 0;plain 10 1 0 0;call 1 5 9;", 0, 3, 7, 1, 0);
        rule("fade 0;plain 10 1 0 0;plain 12 2 2 0;plain 9 3 3 0;call 0 5 9;", 0, 5, 2, 1, 0);
    }

    /** "from the ONE behind him who lifted last on (from 0 on at first), round and round". */
    private static void promise20ByTurns() {
        String three = "plain 5 1 1 0;deaf 5 1 2 0;near 5 1 10 0;";
        rule(three + "call 2 9 9;", 3, 9, 1, 1, 0);
        rule(three + "call 0 9 9;", 3, 9, 2, 1, 0);
        rule(three + "call 0 9 9;call 0 9 9;", 3, 18, 12, 1, 0);
        // 1, 2, then round: 0 is away himself, so 1 again.
        rule(three + "call 0 9 9;call 0 9 9;call 0 9 9;", 3, 27, 14, 2, 0);
        // 1, 2, 0 of desk 1.
        rule(three + "call 0 9 9;call 0 9 9;call 1 9 9;", 3, 27, 13, 1, 0);
        // 0 of desk 2, then 2 of desk 1, since he who is behind 0 is away.
        rule(three + "call 2 9 9;call 1 9 9;", 3, 18, 11, 1, 0);
        // It is his turn, however far off he is.
        rule("fade 0;plain 10 1 0 0;plain 12 1 2 0;plain 9 1 3 0;call 0 5 9;", 3, 5, 2, 1, 0);
        rule("fade 0;plain 10 1 0 0;plain 12 1 2 0;plain 9 1 3 0;call 0 5 9;call 0 5 9;call 0 5 9;", 3, 15, 7, 2, 0);
        // 1, 2, then of desk 3: round to 0; of desk 0: round beyond him to 1.
        String four = "plain 5 1 1 0;plain 5 1 2 0;plain 5 1 4 0;plain 5 1 8 0;";
        rule(four + "call 0 9 9;call 0 9 9;call 3 9 9;", 3, 27, 2 + 4 + 1, 1, 0);
        rule(four + "call 0 9 9;call 0 9 9;call 0 9 9;call 0 9 9;", 3, 36, 2 + 4 + 8 + 2, 2, 0);
        rule(four + "call 0 9 9;call 0 9 9;call 0 9 9;call 1 9 9;", 3, 36, 2 + 4 + 8 + 1, 1, 0);
        // One alone hears it, again and again.
        rule("plain 5 1 1 0;plain 5 1 2 0;" + "call 0 9 9;".repeat(10), 3, 90, 20, 10, 0);
        // Nobody hears desk 2: the turn stays. Else it would be 3's.
        String far = "plain 5 1 1 0;plain 5 1 2 0;plain 30 1 5 0;plain 5 1 7 0;";
        rule(far + "call 3 9 9;call 2 9 9;call 3 9 9;", 3, 18, 3, 1, 1);
        rule(far + "call 2 9 9;call 3 9 9;", 3, 9, 1, 1, 1);
        rule(far + "call 1 9 9;call 1 9 9;call 1 9 9;", 3, 27, 9, 2, 0);
        rule(DESK.repeat(7) + "plain 0 1 3 0;" + "call 0 9 9;".repeat(10), 3, 90, 3, 2, 0);
    }

    private static void promise20AsOnADay() {
        String fair = "plain 0 1 0 0;fair 0 12 1 0;" + "call 0 99 20;".repeat(10);
        rule(fair, 0, 88 + 87 + 86 + 85 + 84 + 83 + 82 + 81 + 80, 9, 9, 1);
        String soft = "plain 0 1 0 0;soft 0 3 1 0;" + "call 0 99 20;".repeat(10);
        rule(soft, 0, 97 + 98 + 8 * 99, 10, 10, 0);
        // Other rules have their own rings.
        rule(fair, 1, 970, 10, 10, 0);
        rule(soft, 2, 980, 10, 10, 0);
        rule(soft, 3, 990, 10, 10, 0);
        // A near one and a nearer deaf one; he whose desk rings is away, however near.
        rule("plain 5 1 0 0;near 7 2 1 0;deaf 6 1 0 0;call 0 9 9;", 0, 0, 0, 0, 1);
        rule("deaf 5 1 0 0;near 7 2 1 0;deaf 7 1 0 0;call 0 9 9;", 0, 8, 1, 1, 0);
    }

    private static void promise20NothingRings() {
        for (int rule = 0; rule < 4; rule++) {
            rule("", rule, 0, 0, 0, 0);
            rule(DESK.repeat(8), rule, 0, 0, 0, 0);
        }
    }

    private static void promise20NoSuch() {
        DeskRings x = Checks.office(DESK.repeat(2) + "call 0 9 9;");
        for (int what = 0; what < 4; what++) {
            for (int rule : new int[] {-1, 4, -2, 5, LEAST, MOST}) {
                C.due("rule(0, " + rule + ", " + what + ")", x.rule(0, rule, what), -1);
            }
            for (int office : NOT_THERE) {
                C.due("rule(" + office + ", 0, " + what + ")", x.rule(office, 0, what), -1);
            }
        }
        for (int rule = 0; rule < 4; rule++) {
            for (int what : new int[] {-1, 4, -2, 5, 10, LEAST, MOST}) {
                C.due("rule(0, " + rule + ", " + what + ")", x.rule(0, rule, what), -1);
            }
        }
    }

    private static void given(String office, int worth, int... row) {
        DeskRings x = Checks.office(office);
        C.due("given(0, -1) of '" + office + "'", x.given(0, -1), worth);
        for (int k = 0; k < row.length; k++) {
            C.due("given(0, " + k + ") of '" + office + "'", x.given(0, k), row[k]);
        }
        for (int k : new int[] {row.length, 10, -2, -3, LEAST, MOST}) {
            C.due("given(0, " + k + ") of '" + office + "'", x.given(0, k), -1);
        }
    }

    private static void promise25NoneAndAll() {
        given("", 0);
        given(DESK, 0);
        given(DESK + "call 0 99 1;", 99, 0);
        given(DESK + "call 0 0 1;", 0, 0);
        StringBuilder rising = new StringBuilder(DESK.repeat(8));
        StringBuilder falling = new StringBuilder(DESK.repeat(8));
        for (int k = 0; k < 10; k++) {
            rising.append("call 3 ").append(90 + k).append(" 1;");
            falling.append("call 3 ").append(99 - k).append(" 1;");
        }
        given(rising.toString(), 92 + 93 + 94 + 95 + 96 + 97 + 98 + 99, 8, 8, 0, 1, 2, 3, 4, 5, 6, 7);
        given(falling.toString(), 92 + 93 + 94 + 95 + 96 + 97 + 98 + 99, 0, 1, 2, 3, 4, 5, 6, 7, 8, 8);
        given(DESK.repeat(8) + "call 0 5 1;".repeat(10), 40, 0, 1, 2, 3, 4, 5, 6, 7, 8, 8);
        given(DESK.repeat(8) + "call 7 0 1;".repeat(10), 0, 0, 1, 2, 3, 4, 5, 6, 7, 8, 8);
        // Each hears his own alone, who is just too far off does not.
        given("plain 0 1 0 0;plain 11 1 0 0;call 1 5 1;call 0 6 1;call 0 7 1;", 12, 1, 8, 0);
        given("plain 0 1 0 0;plain 10 1 0 0;call 1 5 1;call 0 6 1;call 0 7 1;", 13, 8, 0, 1);
    }

    private static void promise25FirstByNumbers() {
        String chain = "ear 4;plain 0 1 0 0;plain 4 1 0 0;plain 8 1 0 0;";
        given(chain + "call 1 5 1;", 5, 0);
        given(chain + "call 1 5 1;call 0 5 1;", 10, 0, 1);
        given(chain + "call 1 5 1;call 0 5 1;call 0 5 1;", 15, 2, 0, 1);
        given(chain + "call 2 5 1;call 0 5 1;call 1 5 1;", 15, 1, 0, 2);
        // A deaf one takes it, too; of calls as worthy the first ones are given.
        given("deaf 0 1 0 0;deaf 0 1 0 0;call 0 5 1;call 0 5 1;call 0 5 1;", 10, 0, 1, 8);
        // What is worth nothing must not take one from what is worth something.
        given(DESK + "call 0 0 1;call 0 1 1;", 1, 8, 0);
        given(DESK + "call 0 1 1;call 0 0 1;", 1, 0, 8);
        given(DESK + "call 0 0 1;call 0 0 1;", 0, 0, 8);
    }

    private static void promise25NoSuch() {
        DeskRings x = Checks.office(DESK + "call 0 5 1;");
        for (int office : NOT_THERE) {
            for (int k = -1; k <= 1; k++) {
                C.due("given(" + office + ", " + k + ")", x.given(office, k), -1);
            }
        }
    }

    /** What is got "if all CALLS are lifted at that ring", 1 to 12. */
    private static void promise26EveryRing() {
        for (int fade = 0; fade <= 9; fade++) {
            DeskRings x = Checks.office(DESK + "fade " + fade + ";call 0 99 1;call 0 20 20;call 0 0 1;machine 1;");
            for (int ring = 1; ring <= 12; ring++) {
                int lost = fade * (ring - 1);
                C.due("curve(0, " + ring + ") by fade " + fade, x.curve(0, ring), 99 - lost + Math.max(0, 20 - lost));
            }
            for (int ring : new int[] {0, 13, -1, 14, LEAST, MOST}) {
                C.due("curve(0, " + ring + ")", x.curve(0, ring), -1);
            }
            for (int office : NOT_THERE) {
                C.due("curve(" + office + ", 1)", x.curve(office, 1), -1);
            }
        }
        C.due("no calls", Checks.office("").curve(0, 1), 0);
        C.due("no calls", Checks.office(DESK).curve(0, 12), 0);
        C.due("ten calls", Checks.office(DESK + "call 0 99 1;".repeat(10)).curve(0, 1), 990);
        C.due("just 0", Checks.office(DESK + "call 0 99 1;fade 9;").curve(0, 12), 0);
        C.due("just above 0", Checks.office(DESK + "call 0 99 1;fade 9;").curve(0, 11), 9);
        C.due("not below 0", Checks.office(DESK + "call 0 10 1;call 0 12 1;").curve(0, 12), 1);
    }

    private static void order(String office, int n, int much, int... row) {
        DeskRings x = Checks.office(office);
        C.due("order(0, " + n + ", -1) of '" + office + "'", x.order(0, n, -1), much);
        for (int k = 0; k < row.length; k++) {
            C.due("order(0, " + n + ", " + k + ") of '" + office + "'", x.order(0, n, k), row[k]);
        }
        for (int k : new int[] {row.length, row.length + 1, -2, -3, LEAST, MOST}) {
            C.due("order(0, " + n + ", " + k + ") of '" + office + "'", x.order(0, n, k), -1);
        }
    }

    private static void promise28Orders() {
        order("", 0, 0);
        order(DESK, 0, 0);
        order(DESK.repeat(2) + "call 0 9 9;", 0, 0);
        order(DESK.repeat(2) + "call 0 9 9;", 1, 9, 0);
        order(DESK + "call 0 9 9;".repeat(5), 5, 0, 0, 1, 2, 3, 4);
        order(DESK.repeat(2) + "call 0 9 9;".repeat(10), 5, 45, 0, 1, 2, 3, 4);
        // The fair one lifts later each time: who is least patient must be first.
        String fair = "fade 0;plain 0 1 0 0;fair 0 1 0 0;call 0 9 5;call 0 9 4;call 0 9 3;call 0 9 2;call 0 9 1;call 0 99 1;";
        order(fair, 1, 9, 0);
        order(fair, 2, 18, 0, 1);
        order(fair, 3, 27, 0, 1, 2);
        order(fair, 4, 36, 0, 3, 2, 1);
        order(fair, 5, 45, 4, 3, 2, 1, 0);
        for (int n = 1; n <= 5; n++) {
            for (int[] row : Oracle.orders(n)) {
                onlyOrder(row);
            }
        }
        // Only one is lifted in time, whichever is first: the dearest.
        order("fade 0;plain 0 1 0 0;fair 0 3 0 0;call 0 5 3;call 0 7 3;call 0 7 3;", 3, 7, 1, 0, 2);
        // The soft one lifts sooner each time.
        order("fade 0;plain 0 1 0 0;soft 0 3 0 0;call 0 5 1;call 0 7 2;call 0 9 3;", 3, 21, 2, 1, 0);
        order("fade 0;plain 0 1 0 0;soft 0 3 0 0;call 0 5 1;call 0 7 2;call 0 9 3;", 2, 0, 0, 1);
    }

    /** The fair one lifts the k-th call at ring k; each call waits just so long if they ring in this order. */
    private static void onlyOrder(int... row) {
        int[] patience = new int[row.length];
        for (int k = 0; k < row.length; k++) {
            patience[row[k]] = k + 1;
        }
        StringBuilder office = new StringBuilder("fade 0;plain 0 1 0 0;fair 0 1 0 0;");
        for (int each : patience) {
            office.append("call 0 9 ").append(each).append(';');
        }
        order(office.toString(), row.length, 9 * row.length, row);
    }

    private static void promise28NoSuch() {
        for (int calls = 0; calls <= 10; calls++) {
            DeskRings x = Checks.office(DESK.repeat(2) + "call 0 9 9;".repeat(calls));
            for (int n = 0; n <= 11; n++) {
                boolean can = n <= 5 && n <= calls;
                C.due("order(0, " + n + ", -1) of " + calls, x.order(0, n, -1), can ? 9 * n : -1);
                C.due("order(0, " + n + ", 0) of " + calls, x.order(0, n, 0), can && n > 0 ? 0 : -1);
                C.due("order(0, " + n + ", last) of " + calls, x.order(0, n, n - 1), can && n > 0 ? n - 1 : can ? 0 : -1);
                C.due("order(0, " + n + ", " + n + ") of " + calls, x.order(0, n, n), -1);
            }
            for (int n : new int[] {-1, -2, LEAST, MOST}) {
                C.due("order(0, " + n + ", -1)", x.order(0, n, -1), -1);
            }
            for (int office : NOT_THERE) {
                C.due("order(" + office + ", 0, -1)", x.order(office, 0, -1), -1);
            }
        }
    }

    private static void duty(String office, int n, int much, int... row) {
        DeskRings x = Checks.office(office);
        C.due("duty(0, " + n + ", -1) of '" + office + "'", x.duty(0, n, -1), much);
        for (int k = 0; k < row.length; k++) {
            C.due("duty(0, " + n + ", " + k + ") of '" + office + "'", x.duty(0, n, k), row[k]);
        }
        for (int k : new int[] {row.length, row.length + 1, -2, -3, LEAST, MOST}) {
            C.due("duty(0, " + n + ", " + k + ") of '" + office + "'", x.duty(0, n, k), -1);
        }
    }

    private static void promise31OneAndTwo() {
        for (int n = 0; n <= 20; n++) {
            int[] alone = new int[n];
            int[] turns = new int[n];
            int[] others = new int[n];
            for (int k = 0; k < n; k++) {
                turns[k] = k % 2;
                // An odd number of days is cheapest from the cheap one on; else from either, so from 0 on.
                others[k] = n % 2 == 0 ? k % 2 : 1 - k % 2;
            }
            duty("plain 0 1 20 0;", n, 20 * n, alone);
            duty("plain 0 1 0 0;", n, 0, alone);
            duty("plain 0 1 3 0;plain 0 1 3 0;", n, 3 * n, turns);
            duty("plain 0 1 1 0;plain 0 1 5 0;", n, (n + 1) / 2 + 5 * (n / 2), turns);
            duty("plain 0 1 5 0;plain 0 1 1 0;", n, (n + 1) / 2 + 5 * (n / 2), others);
            duty("plain 0 1 20 0;".repeat(8), n, 20 * n, turns);
        }
    }

    private static void promise31FirstByNumbers() {
        duty("plain 0 1 3 0;plain 0 1 1 0;plain 0 1 1 0;", 4, 4, 1, 2, 1, 2);
        duty("plain 0 1 2 0;plain 0 1 1 0;plain 0 1 2 0;", 2, 3, 0, 1);
        duty("plain 0 1 2 0;plain 0 1 1 0;plain 0 1 2 0;", 3, 4, 1, 0, 1);
        duty("plain 0 1 2 0;plain 0 1 1 0;plain 0 1 2 0;", 4, 6, 0, 1, 0, 1);
        duty("plain 0 1 9 0;".repeat(6) + "plain 0 1 0 0;plain 0 1 1 0;", 3, 1, 6, 7, 6);
        duty("plain 0 1 9 0;".repeat(6) + "plain 0 1 0 0;plain 0 1 1 0;", 2, 1, 6, 7);
        duty("plain 0 1 1 0;plain 0 1 0 0;plain 0 1 0 0;", 1, 0, 1);
        duty("plain 0 1 9 0;plain 0 1 5 0;plain 0 1 1 0;", 3, 7, 2, 1, 2);
        duty("plain 0 1 1 0;plain 0 1 5 0;plain 0 1 9 0;", 3, 7, 0, 1, 0);
    }

    private static void promise31NoSuch() {
        duty("", 0, 0);
        duty("", 1, -1);
        duty("", 20, -1);
        C.due("no ones, day 0", Checks.office("").duty(0, 1, 0), -1);
        C.due("no ones, day 19", Checks.office("").duty(0, 20, 19), -1);
        DeskRings x = Checks.office("plain 0 1 3 0;plain 0 1 4 0;");
        C.due("20 days", x.duty(0, 20, -1), 70);
        C.due("the last of 20 days", x.duty(0, 20, 19), 1);
        for (int n : new int[] {-1, 21, -2, 22, LEAST, MOST}) {
            for (int k = -1; k <= 1; k++) {
                C.due("duty(0, " + n + ", " + k + ")", x.duty(0, n, k), -1);
                C.due("duty(0, " + n + ", " + k + ") without ones", Checks.office("").duty(0, n, k), -1);
            }
        }
        for (int office : NOT_THERE) {
            C.due("duty(" + office + ", 0, -1)", x.duty(office, 0, -1), -1);
            C.due("duty(" + office + ", 1, 0)", x.duty(office, 1, 0), -1);
        }
    }

    private static void best(String office, int want) {
        C.due("best of '" + office + "'", Checks.office(office).best(0), want);
    }

    /** "by which what is GOT less what is PAID is greatest, of several the least". */
    private static void promise35OfSeveralTheLeast() {
        best("", 0);
        best(DESK, 0);
        best(DESK + "call 0 9 9;", 0);
        String two = "fade 0;plain 0 1 0 0;plain 0 12 4 0;";
        best(two + "call 0 9 12;", 0);
        best(two + "call 0 9 11;", 1);
        best(two + "call 0 9 3;", 1);
        best(two + "call 0 9 2;", 2);
        best(two + "call 0 9 1;", 3);
        // Just worth its cost: as good as nothing; less than that: nothing is better.
        best(two + "call 0 4 1;", 0);
        best(two + "call 0 5 1;", 3);
        best(two + "call 0 3 1;", 0);
        best(two + "call 0 3 12;machine 11;", 0);
        best(two + "call 0 3 12;", 0);
        best("fade 0;plain 0 1 0 0;plain 0 2 20 0;call 0 3 2;", 1);
        // A loss by each: of several the least.
        best("fade 0;plain 0 1 0 0;plain 0 1 20 0;call 0 0 9;", 0);
        best("fade 1;plain 0 1 0 0;plain 0 2 20 0;call 0 9 9;", 3);
        // There is no fifth rule by which the first of all would lift again and again.
        best("fade 0;plain 0 12 0 0;plain 0 12 0 0;plain 0 12 20 0;call 0 9 1;call 0 50 1;", 3);
        DeskRings x = Checks.office(two);
        for (int office : NOT_THERE) {
            C.due("best(" + office + ")", x.best(office), -1);
        }
    }
}
