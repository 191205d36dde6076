/** Promises 8, 9, 18, 29: days, deed by deed, told or drawn, and what is left behind them. */
public final class DayTest {
    private static final Checks C = new Checks();

    public static void main(String[] args) {
        ordinaryDay();
        kindsThatHelp();
        machineAndPatience();
        deedsThatCannotBe();
        clashes();
        behindTheDay();
        drawn();
        wrongInputs();
        C.finish();
    }

    private static void states(DeskRings x, int n, int... want) {
        for (int what = 0; what < want.length; what++) {
            C.due("state(0, 0, " + n + ", " + what + ")", x.state(0, 0, n, what), want[what]);
        }
    }

    private static void ordinaryDay() {
        DeskRings x = Checks.officeAndDay("ear 4;fade 3;soft 0 3 5 5;plain 4 2 1 8;fair 6 1 2 2;"
                + "call 0 20 3;call 2 10 1;call 1 8 9;",
                "away 0;ring 0;away 2;ring 1;away 1;ring 2;back 0;read 0;ring 1;read 1;");
        C.due("stop", x.stop(0, 0), 9);
        states(x, 0, 7, 0, 0, 0, 0, 0, 0);
        states(x, 1, 6, 0, 0, 0, 0, 0, 0);
        states(x, 2, 6, 1, 0, 0, 17, 1, 0);
        C.due("slip", x.state(0, 0, 2, 20), 1);
        C.due("helped", x.state(0, 0, 2, 11), 1);
        states(x, 4, 2, 1, 1, 0, 17, 1, 0);
        states(x, 6, 0, 1, 2, 0, 17, 1, 0);
        C.due("not read yet", x.state(0, 0, 7, 30), 0);
        C.due("read", x.state(0, 0, 8, 30), 1);
        C.due("no slip", x.state(0, 0, 8, 20), 0);
        states(x, 9, 1, 1, 3, 0, 17, 1, 0);
        C.due("beyond stop", x.state(0, 0, 10, 0), -2);
        C.due("n -1", x.state(0, 0, -1, 0), -2);
    }

    private static void kindsThatHelp() {
        // The soft one lifts sooner, the fair one later, each time he has helped.
        DeskRings x = Checks.officeAndDay("plain 5 1 0 0;soft 4 3 1 0;call 0 50 9;call 0 50 9;call 0 50 9;call 0 50 9;",
                "away 0;ring 0;ring 1;ring 2;ring 3;");
        int[] gotSoft = {0, 0, 48, 97, 147, 197};
        for (int n = 0; n <= 5; n++) {
            C.due("got by the soft one", x.state(0, 0, n, 4), gotSoft[n]);
        }
        x = Checks.officeAndDay("plain 5 1 0 0;fair 4 3 1 0;call 0 50 5;call 0 50 5;call 0 50 5;call 0 50 5;",
                "away 0;ring 0;ring 1;ring 2;ring 3;");
        int[] gotFair = {0, 0, 48, 95, 141, 141};
        for (int n = 0; n <= 5; n++) {
            C.due("got by the fair one", x.state(0, 0, n, 4), gotFair[n]);
        }
        C.due("gone at last", x.state(0, 0, 5, 2), 1);
        // At his own desk nobody helps, and the deaf one lifts his own.
        x = Checks.officeAndDay("deaf 5 3 4 0;deaf 5 1 4 0;call 0 50 9;call 0 50 9;", "ring 0;away 0;ring 1;");
        states(x, 1, 3, 1, 0, 0, 50, 0, 0);
        states(x, 3, 2, 1, 1, 0, 50, 0, 0);
        C.due("helped", x.state(0, 0, 1, 10), 0);
        C.due("slips", x.state(0, 0, 1, 20), 0);
        // The near one lifts only if nobody is nearer, a deaf one neither.
        x = Checks.officeAndDay("plain 5 1 0 0;near 8 3 4 0;deaf 4 1 4 0;call 0 50 9;",
                "away 0;ring 0;away 2;ring 0;");
        states(x, 2, 6, 0, 1, 0, 0, 0, 0);
        states(x, 4, 2, 1, 1, 0, 48, 4, 0);
    }

    private static void machineAndPatience() {
        String desks = "plain 0 1 0 0;plain 1 4 2 0;call 0 9 4;call 0 9 3;call 0 9 2;";
        String day = "away 0;ring 0;ring 1;ring 2;ring 1;";
        states(Checks.officeAndDay(desks, day), 5, 2, 1, 3, 0, 6, 2, 0);
        states(Checks.officeAndDay("machine 4;" + desks, day), 5, 2, 1, 3, 0, 6, 2, 0);
        states(Checks.officeAndDay("machine 3;" + desks, day), 5, 2, 0, 1, 3, 0, 0, 0);
        states(Checks.officeAndDay("machine 2;" + desks, day), 5, 2, 0, 0, 4, 0, 0, 0);
        states(Checks.officeAndDay("machine 1;" + desks, "ring 0;"), 1, 3, 1, 0, 0, 9, 0, 0);
        // What is got is never below 0.
        states(Checks.officeAndDay("fade 9;" + desks, day), 5, 2, 1, 3, 0, 0, 2, 0);
    }

    private static void deedsThatCannotBe() {
        String office = "plain 0 1 0 0;plain 1 1 0 0;call 0 9 4;";
        String[] days = {"ring 1;", "away 2;", "back 2;", "read 2;", "back 0;", "read 0;", "away 0;away 0;",
            "away 0;ring 0;ring 0;", "away 0;ring 0;read 0;", "away 0;ring 0;back 0;read 0;read 0;", "ring 0;ring 0;",
            "", "away 0;back 0;back 0;away 1;", "away 0;away 1;ring 0;ring 0;"};
        int[] stops = {0, 0, 0, 0, 0, 0, 1, 2, 2, 4, 1, 0, 2, 4};
        for (int i = 0; i < days.length; i++) {
            C.due("stop of '" + days[i] + "'", Checks.officeAndDay(office, days[i]).stop(0, 0), stops[i]);
        }
    }

    private static void clashes() {
        String office = "plain 5 1 0 0;plain 8 2 1 0;plain 3 2 2 0;plain 7 2 3 0;call 0 9 2;call 0 9 1;";
        DeskRings x = Checks.officeAndDay(office, "away 0;ring 0;ring 1;");
        states(x, 2, 14, 1, 0, 0, 8, 2, 1);
        C.due("the nearest, the least by number", x.state(0, 0, 2, 12), 1);
        states(x, 3, 14, 1, 1, 0, 8, 2, 1);
    }

    private static void behindTheDay() {
        DeskRings x = Checks.officeAndDay("plain 0 1 0 0;plain 1 1 2 0;call 0 10 4;call 0 9 4;call 1 1 1;",
                "away 0;ring 1;ring 0;back 0;away 1;ring 2;read 1;");
        C.due("helper", x.after(0, 0, 0), 1);
        C.due("half", x.after(0, 0, 1), 3);
        C.due("unread", x.after(0, 0, 2), 3);
        C.due("after(0, 0, 3)", x.after(0, 0, 3), -2);
        C.due("after(0, 0, -1)", x.after(0, 0, -1), -2);
        C.due("after(1, 0, 0)", x.after(1, 0, 0), -2);
        C.due("after(0, 1, 0)", x.after(0, 1, 0), -2);
        x = Checks.officeAndDay("plain 0 1 0 0;call 0 10 4;call 0 10 4;", "ring 0;ring 1;");
        C.due("nobody helped", x.after(0, 0, 0), -1);
        C.due("just half", x.after(0, 0, 1), 1);
        C.due("nothing unread", x.after(0, 0, 2), 0);
        x = Checks.officeAndDay("plain 0 1 0 0;call 0 0 4;", "ring 0;");
        C.due("half of nothing", x.after(0, 0, 1), 0);
        x = Checks.officeAndDay("plain 0 1 0 0;plain 1 1 2 0;plain 2 1 1 0;call 0 10 4;call 1 9 4;",
                "away 0;away 1;ring 1;back 1;away 2;ring 0;");
        C.due("of several helpers the least", x.after(0, 0, 0), 1);
        C.due("unread", x.after(0, 0, 2), 3);
    }

    private static void drawn() {
        DeskRings x = Checks.office("plain 0 1 0 0;plain 1 2 2 0;soft 2 3 1 0;call 0 10 4;call 1 9 4;call 2 8 4;");
        for (int seed : new int[] {0, 1, 7, -5, 123456789, Integer.MIN_VALUE}) {
            for (int n = 0; n <= 60; n += 12) {
                Oracle.Run run = Oracle.drawn(new Oracle(x, 0), seed, n);
                for (int what = 0; what < 40; what++) {
                    C.due("drawn(0, " + seed + ", " + n + ", " + what + ")", x.drawn(0, seed, n, what), run.tell(what));
                }
            }
        }
        // By hand: of seed 0 the first numbers below 2^16 are 0, 54236, 42756, 54885: ring, call 54236 % 3 is 2.
        C.due("nothing drawn", x.drawn(0, 0, 0, 1), 0);
        C.due("seed 0, one deed", x.drawn(0, 0, 1, 1), 4);
        C.due("seed 0, one deed", x.drawn(0, 0, 1, 4), 8);
        // Then 42756 % 8 is 4: away, desk 54885 % 3 is 0.
        C.due("seed 0, two deeds", x.drawn(0, 0, 2, 0), 6);
        DeskRings bare = Checks.office("");
        C.due("nothing to draw from", bare.drawn(0, 0, 60, 2), 0);
        // Without calls the first deed draws once: 0; the second draws 54236 % 8 is 4: away, 42756 % 3 is 0.
        DeskRings calm = Checks.office("plain 0 1 0 0;plain 1 2 2 0;soft 2 3 1 0;");
        C.due("no call to draw from", calm.drawn(0, 0, 2, 0), 6);
        C.due("n -1", x.drawn(0, 0, -1, 0), -2);
        C.due("n 61", x.drawn(0, 0, 61, 0), -2);
        C.due("office 1", x.drawn(1, 0, 1, 0), -2);
        C.due("what 7", x.drawn(0, 0, 1, 7), -2);
        C.due("what 13", x.drawn(0, 0, 1, 13), -2);
        C.due("what 40", x.drawn(0, 0, 1, 40), -2);
    }

    private static void wrongInputs() {
        DeskRings x = Checks.officeAndDay("plain 0 1 0 0;", "away 0;");
        for (int what : new int[] {-1, 7, 9, 11, 17, 19, 21, 31, 40, 100, Integer.MIN_VALUE, Integer.MAX_VALUE}) {
            C.due("state(0, 0, 0, " + what + ")", x.state(0, 0, 0, what), -2);
        }
        C.due("state(1, 0, 0, 0)", x.state(1, 0, 0, 0), -2);
        C.due("state(0, 1, 0, 0)", x.state(0, 1, 0, 0), -2);
        C.due("state(0, 0, 2, 0)", x.state(0, 0, 2, 0), -2);
        C.due("state(0, 0, 1, 0)", x.state(0, 0, 1, 0), 0);
        C.due("stop(1, 0)", x.stop(1, 0), -1);
        C.due("stop(0, 1)", x.stop(0, 1), -1);
        C.due("stop(-1, 0)", x.stop(-1, 0), -1);
        C.due("stop(0, -1)", x.stop(0, -1), -1);
    }
}
