/** Promises 21 to 24, 27, 32, 37: the board, rooms, seats, quiet, ears, calls passed on, the loudest desk. */
public final class PlaceTest {
    private static final Checks C = new Checks();

    public static void main(String[] args) {
        board();
        rooms();
        seat();
        quiet();
        ears();
        passed();
        loud();
        C.finish();
    }

    private static void board() {
        DeskRings x = Checks.office("plain 0 1 0 0;plain 4 1 0 0;plain 6 1 0 0;call 0 1 1;call 2 1 1;call 1 1 1;");
        C.due("board(0, false)", x.board(0, false), 4);
        C.due("board(0, true)", x.board(0, true), 6);
        x = Checks.office("plain 3 1 0 0;plain 9 1 0 0;plain 30 1 0 0;call 2 1 1;call 1 1 1;call 2 5 1;");
        C.due("as often as calls are", x.board(0, false), 30);
        C.due("together", x.board(0, true), 21);
        x = Checks.office("plain 3 1 0 0;plain 9 1 0 0;call 0 1 1;call 1 1 1;");
        C.due("of several the least", x.board(0, false), 3);
        C.due("together", x.board(0, true), 6);
        x = Checks.office("plain 3 1 0 0;");
        C.due("no calls", x.board(0, false), 0);
        C.due("no calls", x.board(0, true), 0);
        C.due("board(1, false)", x.board(1, false), -1);
        C.due("board(-1, true)", x.board(-1, true), -1);
    }

    private static void rooms() {
        DeskRings x = Checks.office("ear 3;plain 0 1 0 0;plain 6 1 0 0;plain 3 1 0 0;deaf 10 1 0 0;plain 30 1 0 0;plain 13 1 0 0;");
        C.due("rooms(0, false)", x.rooms(0, false), 3);
        C.due("rooms(0, true)", x.rooms(0, true), 3);
        C.due("of none", Checks.office("").rooms(0, false), 0);
        C.due("of none", Checks.office("").rooms(0, true), 0);
        x = Checks.office("ear 4;plain 28 1 0 0;plain 24 1 0 0;plain 20 1 0 0;plain 16 1 0 0;plain 12 1 0 0;plain 8 1 0 0;plain 4 1 0 0;plain 0 1 0 0;");
        C.due("a chain", x.rooms(0, false), 1);
        C.due("a chain", x.rooms(0, true), 8);
        C.due("rooms(1, false)", x.rooms(1, false), -1);
        C.due("rooms(1, true)", x.rooms(1, true), -1);
    }

    private static void seat() {
        DeskRings x = Checks.office("ear 4;plain 0 1 0 0;plain 4 1 0 0;deaf 6 1 0 0;");
        C.due("seat(0, 1, false)", x.seat(0, 1, false), 11);
        C.due("seat(0, 1, true)", x.seat(0, 1, true), 0);
        C.due("seat(0, 0, false)", x.seat(0, 0, false), 11);
        x = Checks.office("ear 15;plain 15 1 0 0;plain 3 1 0 0;plain 0 1 0 0;");
        C.due("not without", x.seat(0, 1, false), 16);
        C.due("not without", x.seat(0, 1, true), 1);
        C.due("without", x.seat(0, 0, false), 19);
        C.due("without", x.seat(0, 0, true), 0);
        C.due("alone", Checks.office("plain 7 1 0 0;").seat(0, 0, false), 0);
        C.due("seat(0, 3, false)", x.seat(0, 3, false), -1);
        C.due("seat(0, -1, true)", x.seat(0, -1, true), -1);
        C.due("seat(1, 0, true)", x.seat(1, 0, true), -1);
    }

    private static void quiet() {
        String desks = "ear 4;plain 0 1 0 0;deaf 4 1 0 0;plain 6 1 0 0;call 0 1 3;call 2 1 1;call 1 1 9;call 0 1 7;";
        DeskRings x = Checks.office(desks);
        C.due("quiet(0, 0)", x.quiet(0, 0), 9);
        C.due("quiet(0, 1)", x.quiet(0, 1), 11);
        C.due("quiet(0, 2)", x.quiet(0, 2), 9);
        x = Checks.office(desks + "machine 5;");
        C.due("up to the machine", x.quiet(0, 0), 5);
        C.due("up to the machine", x.quiet(0, 1), 3 + 1 + 5);
        C.due("quiet(0, 3)", x.quiet(0, 3), -1);
        C.due("quiet(0, -1)", x.quiet(0, -1), -1);
        C.due("quiet(1, 0)", x.quiet(1, 0), -1);
    }

    private static void ears() {
        C.due("three", Checks.office("ear 0;plain 0 1 0 0;plain 4 1 0 0;plain 6 1 0 0;").ears(0), 4);
        C.due("far", Checks.office("plain 0 1 0 0;plain 30 1 0 0;").ears(0), 30);
        C.due("together", Checks.office("plain 8 1 0 0;deaf 8 1 0 0;").ears(0), 0);
        C.due("alone", Checks.office("plain 8 1 0 0;").ears(0), -1);
        C.due("no desks", Checks.office("").ears(0), 0);
        C.due("ears(1)", Checks.office("").ears(1), -1);
        C.due("ears(-1)", Checks.office("").ears(-1), -1);
    }

    private static void passed() {
        DeskRings x = Checks.office("ear 4;plain 0 1 0 0;plain 4 1 0 0;plain 6 1 0 0;deaf 10 1 0 0;plain 15 1 0 0;");
        int[][] want = {{0, 1, 2, 3, -1}, {1, 0, 1, 2, -1}, {2, 1, 0, 1, -1}, {3, 2, 1, 0, -1}, {-1, -1, -1, -1, 0}};
        for (int from = 0; from < 5; from++) {
            for (int to = 0; to < 5; to++) {
                C.due("passed(0, " + from + ", " + to + ")", x.passed(0, from, to), want[from][to]);
            }
        }
        x = Checks.office("ear 4;plain 28 1 0 0;plain 24 1 0 0;plain 20 1 0 0;plain 16 1 0 0;plain 12 1 0 0;plain 8 1 0 0;plain 4 1 0 0;plain 0 1 0 0;");
        C.due("a chain", x.passed(0, 0, 7), 7);
        C.due("passed(0, 8, 0)", x.passed(0, 8, 0), -1);
        C.due("passed(0, 0, 8)", x.passed(0, 0, 8), -1);
        C.due("passed(0, 0, 32)", x.passed(0, 0, 32), -1);
        C.due("passed(0, 32, 0)", x.passed(0, 32, 0), -1);
        C.due("passed(0, 0, -32)", x.passed(0, 0, -32), -1);
        C.due("passed(0, -1, -1)", x.passed(0, -1, -1), -1);
        C.due("passed(1, 0, 0)", x.passed(1, 0, 0), -1);
    }

    private static void loud() {
        DeskRings x = Checks.office("ear 4;plain 0 1 0 0;plain 4 1 0 0;deaf 6 1 0 0;");
        C.due("loud(0, false)", x.loud(0, false), 1);
        C.due("loud(0, true)", x.loud(0, true), 2);
        x = Checks.office("ear 1;plain 0 1 0 0;plain 4 1 0 0;");
        C.due("nobody hears", x.loud(0, false), 0);
        C.due("nobody hears", x.loud(0, true), 0);
        C.due("no desks", Checks.office("").loud(0, false), -1);
        C.due("no desks", Checks.office("").loud(0, true), -1);
        C.due("loud(1, true)", x.loud(1, true), -1);
    }
}
