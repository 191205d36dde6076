/** Promises 10 to 13, 15, 33, 34: who lifts, whom it takes, odds, means, the button, ties, empty desks. */
public final class LiftTest {
    private static final Checks C = new Checks();

    public static void main(String[] args) {
        who();
        enough();
        oddsAndMeans();
        button();
        tied();
        empty();
        C.finish();
    }

    private static void who() {
        DeskRings x = Checks.office("ear 4;soft 0 3 5 5;plain 4 2 1 8;fair 6 1 2 2;deaf 5 1 0 0;near 8 2 0 0;");
        who(x, 0, 31, 0, 1);
        who(x, 3, 8, 3, 1);
        who(x, 0, 30, 1, 2);
        who(x, 0, 28, -1, -1);
        who(x, 1, 5, 2, 1);
        who(x, 1, 1, 0, 3);
        who(x, 1, 0, -1, -1);
        who(x, 1, 8, -1, -1);
        who(x, 1, 16, 4, 2);
        who(x, 1, 17, 4, 2);
        who(x, 1, 24, -1, -1);
        who(x, 2, 18, 1, 2);
        who(x, 2, 26, 1, 2);
        who(x, 0, 32, -1, -1);
        who(x, 0, -1, -1, -1);
        who(x, 5, 1, -1, -1);
        who(x, -1, 1, -1, -1);
        C.due("who(1, 0, 1, false)", x.who(1, 0, 1, false), -1);
        C.due("who(-1, 0, 1, true)", x.who(-1, 0, 1, true), -1);
        // Just at the edge of the ear; of the same ring the nearest, then the least.
        x = Checks.office("ear 3;plain 10 1 0 0;plain 13 5 0 0;plain 14 1 0 0;plain 8 5 0 0;plain 12 5 0 0;");
        who(x, 0, 6, 1, 5);
        who(x, 0, 4, -1, -1);
        who(x, 0, 30, 3, 5);
        who(x, 0, 22, 4, 5);
    }

    private static void who(DeskRings x, int desk, int there, int who, int ring) {
        C.due("who(0, " + desk + ", " + there + ", false)", x.who(0, desk, there, false), who);
        C.due("who(0, " + desk + ", " + there + ", true)", x.who(0, desk, there, true), ring);
    }

    private static void enough() {
        C.due("enough of none", Checks.office("").enough(0), 0);
        C.due("enough of one", Checks.office("deaf 1 1 1 1;").enough(0), 1);
        C.due("one for all", Checks.office("ear 4;soft 0 3 5 5;plain 4 2 1 8;fair 6 1 2 2;").enough(0), 2);
        C.due("of several the least", Checks.office("plain 0 3 5 5;plain 4 2 1 8;").enough(0), 1);
        C.due("each for himself", Checks.office("ear 1;plain 0 3 5 5;plain 4 2 1 8;plain 9 1 1 1;").enough(0), 7);
        C.due("deaf ones", Checks.office("deaf 0 3 5 5;deaf 4 2 1 8;plain 6 1 1 1;").enough(0), 4);
        // The near one lifts all, but a deaf one there would keep him from it.
        C.due("near and deaf", Checks.office("deaf 5 1 1 1;near 6 1 1 1;plain 5 1 1 1;ear 1;plain 7 1 1 1;deaf 7 1 1 1;")
                .enough(0), 2);
        C.due("enough(1)", Checks.office("").enough(1), -1);
        C.due("enough(-1)", Checks.office("").enough(-1), -1);
    }

    private static void fraction(String call, long over, long under, long wantOver, long wantUnder) {
        C.due(call + ", N", over, wantOver);
        C.due(call + ", D", under, wantUnder);
    }

    private static void odds(DeskRings x, int call, long over, long under) {
        fraction("odds of " + call, x.odds(0, call, false), x.odds(0, call, true), over, under);
    }

    private static void mean(DeskRings x, int call, long over, long under) {
        fraction("mean of " + call, x.mean(0, call, false), x.mean(0, call, true), over, under);
    }

    private static void oddsAndMeans() {
        DeskRings x = Checks.office("ear 4;fade 3;soft 0 3 5 5;plain 4 2 1 8;fair 6 1 2 2;"
                + "call 0 20 3;call 2 10 1;call 1 8 9;");
        odds(x, 0, 9, 10);
        odds(x, 1, 1, 5);
        odds(x, 2, 23, 25);
        mean(x, 0, 84, 5);
        mean(x, 1, 2, 1);
        mean(x, 2, 172, 25);
        C.due("odds(0, 3, false)", x.odds(0, 3, false), -1);
        C.due("odds(0, -1, true)", x.odds(0, -1, true), -1);
        C.due("odds(1, 0, true)", x.odds(1, 0, true), -1);
        C.due("mean(0, 3, false)", x.mean(0, 3, false), -1);
        C.due("mean(0, -1, true)", x.mean(0, -1, true), -1);
        C.due("mean(1, 0, true)", x.mean(1, 0, true), -1);
        x = Checks.office("plain 0 1 0 0;deaf 0 1 0 10;call 0 9 9;call 1 0 9;");
        odds(x, 0, 0, 1);
        mean(x, 0, 0, 1);
        odds(x, 1, 1, 1);
        mean(x, 1, 0, 1);
        // Own 5 of ten: 9; else the other, 5 of ten, at ring 4: beyond the machine, or not.
        String desks = "plain 0 1 0 5;plain 0 4 0 5;call 0 9 9;";
        odds(Checks.office(desks), 0, 3, 4);
        mean(Checks.office(desks), 0, 6, 1);
        odds(Checks.office("machine 3;" + desks), 0, 1, 2);
        mean(Checks.office("machine 3;" + desks), 0, 9, 2);
        odds(Checks.office("machine 4;" + desks), 0, 3, 4);
        x = Checks.office("plain 0 1 0 1;".repeat(8) + "call 7 99 20;");
        odds(x, 0, 56953279L, 100000000L);
    }

    private static void button() {
        DeskRings x = Checks.office("ear 4;soft 0 3 5 5;plain 4 2 1 8;fair 6 1 2 2;");
        button(x, 13, 10, 1, 0, 2);
        button(Checks.office(""), 0, 1);
        button(Checks.office("plain 0 1 0 0;"), 1, 1, 0);
        button(Checks.office("plain 0 1 0 3;plain 0 1 0 3;plain 0 1 0 4;"), 101, 50, 2, 0, 1);
        // Behind one who is there for sure nobody is tried: the row goes on by numbers.
        button(Checks.office("plain 0 1 0 3;plain 0 1 0 5;plain 0 1 0 10;plain 0 1 0 9;plain 0 1 0 10;"),
                1, 1, 2, 0, 1, 3, 4);
        button(Checks.office("plain 0 1 0 0;plain 0 1 0 0;"), 2, 1, 0, 1);
        C.due("button(1, 0)", x.button(1, 0), -1);
        C.due("button(1, -1)", x.button(1, -1), -1);
        C.due("button(0, -3)", x.button(0, -3), -1);
    }

    private static void button(DeskRings x, long over, long under, int... row) {
        fraction("button", x.button(0, -1), x.button(0, -2), over, under);
        for (int k = 0; k < row.length; k++) {
            C.due("button(0, " + k + ")", x.button(0, k), row[k]);
        }
        C.due("button(0, " + row.length + ")", x.button(0, row.length), -1);
    }

    private static void tied() {
        DeskRings x = Checks.office("ear 4;plain 5 1 0 0;plain 8 2 1 0;soft 3 2 2 0;fair 9 2 3 0;deaf 5 1 0 0;"
                + "plain 10 1 0 0;near 4 2 0 0;plain 30 1 1 1;");
        C.due("tied(0, 0)", x.tied(0, 0), 14);
        C.due("two of another desk", x.tied(0, 1), 33);
        C.due("one alone", x.tied(0, 2), 1);
        C.due("nobody", x.tied(0, 7), 0);
        C.due("tied(0, 8)", x.tied(0, 8), -1);
        C.due("tied(0, -1)", x.tied(0, -1), -1);
        C.due("tied(1, 0)", x.tied(1, 0), -1);
    }

    private static void empty() {
        DeskRings x = Checks.office("ear 4;soft 0 3 5 5;plain 4 2 1 8;fair 6 1 2 2;");
        long[][] want = {{2, 25}, {21, 50}, {21, 50}, {2, 25}};
        for (int k = 0; k < 4; k++) {
            fraction("empty of " + k, x.empty(0, k, false), x.empty(0, k, true), want[k][0], want[k][1]);
        }
        C.due("empty(0, 4, false)", x.empty(0, 4, false), -1);
        C.due("empty(0, -1, true)", x.empty(0, -1, true), -1);
        C.due("empty(1, 0, true)", x.empty(1, 0, true), -1);
        x = Checks.office("");
        fraction("empty of 0", x.empty(0, 0, false), x.empty(0, 0, true), 1, 1);
        C.due("empty(0, 1, true)", x.empty(0, 1, true), -1);
        x = Checks.office("plain 0 1 0 10;plain 0 1 0 0;");
        fraction("never", x.empty(0, 0, false), x.empty(0, 0, true), 0, 1);
        fraction("surely", x.empty(0, 1, false), x.empty(0, 1, true), 1, 1);
    }
}
