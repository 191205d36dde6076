/** Promises 21 to 24, 27, 32, 37 at their edges: places 0 and 30, just within hearing and just beyond, none and all. */
public final class EdgePlaceTest {
    private static final Checks C = new Checks();
    private static final int LEAST = Integer.MIN_VALUE;
    private static final int MOST = Integer.MAX_VALUE;
    private static final int[] NOT_THERE = {-1, -2, 1, 2, LEAST, MOST};
    private static final int[] NO_DESK = {-1, -2, 3, 4, 8, 31, 32, 33, LEAST, MOST};
    private static final boolean[] BOTH = {false, true};

    public static void main(String[] args) {
        promise21Board();
        promise22Rooms();
        promise23Seat();
        promise23NoSuch();
        promise24Quiet();
        promise24UpToTheMachine();
        promise24NoSuch();
        promise27Ears();
        promise32Passed();
        promise32NoSuch();
        promise37Loud();
        C.finish();
    }

    /** Plain ones at places. */
    private static String at(int... places) {
        StringBuilder text = new StringBuilder();
        for (int place : places) {
            text.append("plain ").append(place).append(" 1 0 0;");
        }
        return text.toString();
    }

    private static String calls(int... desks) {
        StringBuilder text = new StringBuilder();
        for (int desk : desks) {
            text.append("call ").append(desk).append(" 1 1;");
        }
        return text.toString();
    }

    private static void board(String office, int place, int together) {
        DeskRings x = Checks.office(office);
        C.due("board(0, false) of '" + office + "'", x.board(0, false), place);
        C.due("board(0, true) of '" + office + "'", x.board(0, true), together);
    }

    /** "each as often as CALLS are for it, of several the least". */
    private static void promise21Board() {
        board("", 0, 0);
        board(at(30), 0, 0);
        board(at(30) + calls(0), 30, 0);
        board(at(0) + calls(0), 0, 0);
        for (int place = 0; place <= 30; place++) {
            board(at(place, 0) + calls(0, 0, 1), place, place);
            board(at(place, 30) + calls(0, 1), place, 30 - place);
        }
        board(at(0, 30) + calls(0, 1), 0, 30);
        board(at(30, 0) + calls(0, 1), 0, 30);
        board(at(0, 30) + calls(0, 1, 1), 30, 30);
        board(at(0, 30) + calls(1, 1, 1, 1, 1, 0, 0, 0, 0, 0), 0, 150);
        board(at(0, 30) + calls(1, 1, 1, 1, 1, 1, 0, 0, 0, 0), 30, 120);
        board(at(4, 8, 9) + calls(0, 1), 4, 4);
        board(at(9, 8, 4) + calls(0, 1), 8, 1);
        board(at(3, 10, 20) + calls(0, 1, 2), 10, 17);
        DeskRings x = Checks.office(at(5) + calls(0));
        for (int n : NOT_THERE) {
            for (boolean together : BOTH) {
                C.due("board(" + n + ", " + together + ")", x.board(n, together), -1);
            }
        }
    }

    private static void rooms(String office, int many, int largest) {
        DeskRings x = Checks.office(office);
        C.due("rooms(0, false) of '" + office + "'", x.rooms(0, false), many);
        C.due("rooms(0, true) of '" + office + "'", x.rooms(0, true), largest);
    }

    private static void promise22Rooms() {
        rooms("", 0, 0);
        rooms(at(7), 1, 1);
        for (int desks = 1; desks <= 8; desks++) {
            rooms("deaf 9 1 0 0;".repeat(desks) + "ear 0;", 1, desks);
        }
        rooms(at(0, 10), 1, 2);
        rooms(at(0, 11), 2, 1);
        rooms(at(0, 30) + "ear 30;", 1, 2);
        rooms(at(0, 30) + "ear 29;", 2, 1);
        rooms(at(0, 1) + "ear 0;", 2, 1);
        rooms(at(0, 4, 8, 12, 16, 20, 24, 28) + "ear 4;", 1, 8);
        rooms(at(0, 4, 8, 12, 16, 20, 24, 28) + "ear 3;", 8, 1);
        rooms(at(28, 0, 24, 4, 20, 8, 16, 12) + "ear 4;", 1, 8);
        // The largest is the first, the last, or one of several.
        rooms(at(0, 1, 2, 20, 21) + "ear 1;", 2, 3);
        rooms(at(0, 1, 20, 21, 22) + "ear 1;", 2, 3);
        rooms(at(0, 20, 1, 21, 30, 29) + "ear 1;", 3, 2);
        rooms(at(0, 1, 10, 20, 21, 22) + "ear 1;", 3, 3);
        DeskRings x = Checks.office(at(5));
        for (int n : NOT_THERE) {
            for (boolean largest : BOTH) {
                C.due("rooms(" + n + ", " + largest + ")", x.rooms(n, largest), -1);
            }
        }
    }

    private static void seat(String office, int desk, int place, int many) {
        DeskRings x = Checks.office(office);
        C.due("seat(0, " + desk + ", false) of '" + office + "'", x.seat(0, desk, false), place);
        C.due("seat(0, " + desk + ", true) of '" + office + "'", x.seat(0, desk, true), many);
    }

    /** "the PLACE, of several the least, at which fewest others would HEAR it". */
    private static void promise23Seat() {
        seat(at(30), 0, 0, 0);
        seat(at(0, 0), 0, 11, 0);
        seat(at(0, 0), 1, 11, 0);
        seat(at(0, 11), 0, 0, 0);
        seat(at(0, 10), 0, 21, 0);
        // Just at place 30 nobody hears it; or nowhere.
        seat(at(4, 0) + "ear 29;", 0, 30, 0);
        seat(at(4, 0) + "ear 30;", 0, 0, 1);
        seat(at(4, 30) + "ear 29;", 0, 0, 0);
        seat(at(4, 30) + "ear 30;", 0, 0, 1);
        seat(at(4, 15) + "ear 15;", 0, 0, 1);
        seat(at(4, 15) + "ear 14;", 0, 0, 0);
        seat(at(4, 15, 0) + "ear 15;", 0, 16, 1);
        seat(at(4, 14, 0) + "ear 15;", 0, 30, 0);
        seat(at(4, 0) + "ear 0;", 0, 1, 0);
        // Between two who hear it at both ends.
        seat(at(4, 0, 30), 0, 11, 0);
        seat(at(4, 0, 30) + "ear 14;", 0, 15, 0);
        seat(at(4, 0, 30) + "ear 15;", 0, 0, 1);
        seat(at(4, 1) + "ear 0;", 0, 0, 0);
        seat(at(9, 9, 9, 9, 9, 9, 9, 9) + "ear 30;", 7, 0, 7);
        seat(at(0, 0, 0, 0, 30, 30, 30, 9) + "ear 15;", 7, 16, 3);
        seat(at(0, 0, 0, 9, 30, 30, 30, 30) + "ear 15;", 3, 0, 3);
        // Deaf ones hear, too.
        seat("plain 5 1 0 0;deaf 0 1 0 0;", 0, 11, 0);
    }

    private static void promise23NoSuch() {
        DeskRings x = Checks.office(at(5, 6, 7));
        for (boolean many : BOTH) {
            for (int n : NOT_THERE) {
                C.due("seat(" + n + ", 0, " + many + ")", x.seat(n, 0, many), -1);
            }
            for (int desk : NO_DESK) {
                C.due("seat(0, " + desk + ", " + many + ")", x.seat(0, desk, many), -1);
            }
            C.due("no desks", Checks.office("").seat(0, 0, many), -1);
        }
    }

    private static void quiet(String office, int one, int want) {
        C.due("quiet(0, " + one + ") of '" + office + "'", Checks.office(office).quiet(0, one), want);
    }

    /** "how many rings of other DESKS he HEARS": not of his own, not of those too far off. */
    private static void promise24Quiet() {
        quiet(at(5), 0, 0);
        quiet(at(5) + "call 0 9 20;", 0, 0);
        quiet(at(5, 5), 0, 0);
        quiet(at(0, 10) + "call 0 9 20;", 1, 20);
        quiet(at(0, 11) + "call 0 9 20;", 1, 0);
        quiet(at(0, 10) + "call 1 9 1;", 0, 1);
        quiet(at(0, 10) + "call 0 9 20;call 1 9 3;", 1, 20);
        quiet(at(0, 10) + "call 0 9 20;call 1 9 3;", 0, 3);
        quiet(at(0, 0) + "call 0 9 20;".repeat(10), 1, 200);
        quiet(at(0, 0, 0, 0, 0, 0, 0, 0) + "call 0 9 1;call 1 9 2;call 6 9 4;call 7 9 8;", 7, 7);
        quiet("plain 0 1 0 0;deaf 0 1 0 0;call 0 9 20;", 1, 20);
    }

    private static void promise24UpToTheMachine() {
        for (int patience = 1; patience <= 20; patience++) {
            for (int machine = 0; machine <= 20; machine++) {
                boolean machineEnds = machine != 0 && machine < patience;
                quiet(at(0, 0) + "call 0 9 " + patience + ";machine " + machine + ";", 1, machineEnds ? machine : patience);
            }
        }
    }

    private static void promise24NoSuch() {
        DeskRings x = Checks.office(at(5, 6, 7));
        for (int n : NOT_THERE) {
            C.due("quiet(" + n + ", 0)", x.quiet(n, 0), -1);
        }
        for (int desk : NO_DESK) {
            C.due("quiet(0, " + desk + ")", x.quiet(0, desk), -1);
        }
        C.due("no desks", Checks.office("").quiet(0, 0), -1);
    }

    private static void ears(String office, int want) {
        C.due("ears of '" + office + "'", Checks.office(office).ears(0), want);
    }

    /** "the least EAR, 0 .. 30, by which each DESK is HEARD by another ONE. NONE: by none". */
    private static void promise27Ears() {
        ears("", 0);
        ears(at(0), -1);
        ears(at(30) + "ear 30;", -1);
        for (int place = 0; place <= 30; place++) {
            ears(at(0, place), place);
            ears(at(place, 30) + "ear 0;", 30 - place);
        }
        ears(at(5, 5, 5, 5, 5, 5, 5, 5), 0);
        ears(at(0, 1, 30), 29);
        ears(at(0, 29, 30), 29);
        ears(at(0, 1, 29, 30), 1);
        ears(at(0, 15, 30), 15);
        ears("deaf 3 1 0 0;deaf 5 1 0 0;", 2);
        DeskRings x = Checks.office(at(5, 6));
        for (int n : NOT_THERE) {
            C.due("ears(" + n + ")", x.ears(n), -1);
        }
    }

    private static void passed(String office, int from, int to, int want) {
        DeskRings x = Checks.office(office);
        C.due("passed(0, " + from + ", " + to + ") of '" + office + "'", x.passed(0, from, to), want);
        C.due("passed(0, " + to + ", " + from + ") of '" + office + "'", x.passed(0, to, from), want);
    }

    /** "(0, if both are one)", "NONE: never". */
    private static void promise32Passed() {
        passed(at(9), 0, 0, 0);
        passed(at(0, 30) + "ear 0;", 1, 1, 0);
        passed(at(0, 10), 0, 1, 1);
        passed(at(0, 11), 0, 1, -1);
        passed(at(5, 5) + "ear 0;", 0, 1, 1);
        passed(at(0, 30) + "ear 30;", 0, 1, 1);
        passed(at(0, 30) + "ear 29;", 0, 1, -1);
        String chain = at(0, 4, 8, 12, 16, 20, 24, 28);
        for (int from = 0; from < 8; from++) {
            for (int to = 0; to < 8; to++) {
                int way = Math.abs(from - to);
                passed(chain + "ear 4;", from, to, way);
                passed(chain + "ear 3;", from, to, way == 0 ? 0 : -1);
                passed(chain + "ear 8;", from, to, (way + 1) / 2);
                passed(chain + "ear 28;", from, to, way == 0 ? 0 : 1);
            }
        }
        passed("plain 0 1 0 0;deaf 8 1 0 0;plain 16 1 0 0;", 0, 2, 2);
    }

    private static void promise32NoSuch() {
        DeskRings x = Checks.office(at(5, 6, 7));
        for (int n : NOT_THERE) {
            C.due("passed(" + n + ", 0, 0)", x.passed(n, 0, 0), -1);
            C.due("passed(" + n + ", 0, 1)", x.passed(n, 0, 1), -1);
        }
        for (int desk : NO_DESK) {
            C.due("passed(0, " + desk + ", 0)", x.passed(0, desk, 0), -1);
            C.due("passed(0, 0, " + desk + ")", x.passed(0, 0, desk), -1);
            C.due("passed(0, " + desk + ", " + desk + ")", x.passed(0, desk, desk), -1);
        }
        C.due("no desks", Checks.office("").passed(0, 0, 0), -1);
    }

    private static void loud(String office, int desk, int many) {
        DeskRings x = Checks.office(office);
        C.due("loud(0, false) of '" + office + "'", x.loud(0, false), desk);
        C.due("loud(0, true) of '" + office + "'", x.loud(0, true), many);
    }

    /** "the DESK that most others HEAR, of several the least". */
    private static void promise37Loud() {
        loud("", -1, -1);
        loud(at(9), 0, 0);
        loud(at(0, 10), 0, 1);
        loud(at(0, 11), 0, 0);
        loud(at(0, 10, 20), 1, 2);
        loud(at(0, 20, 10), 2, 2);
        loud(at(0, 11, 21), 1, 1);
        loud(at(30, 0, 10), 1, 1);
        loud(at(9, 9, 9, 9, 9, 9, 9, 9) + "ear 0;", 0, 7);
        loud(at(0, 0, 0, 5, 5, 5, 5, 10), 0, 7);
        loud(at(0, 1, 2, 3, 4, 5, 6, 3) + "ear 3;", 3, 7);
        loud("deaf 0 1 0 0;deaf 10 1 0 0;deaf 20 1 0 0;", 1, 2);
        DeskRings x = Checks.office(at(5, 6));
        for (int n : NOT_THERE) {
            for (boolean many : BOTH) {
                C.due("loud(" + n + ", " + many + ")", x.loud(n, many), -1);
            }
        }
    }
}
