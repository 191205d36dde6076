/** Promises 1 to 5, 38 to 40: a new object, the tape, texts and their faults, images. */
public final class TapeTest {
    private static final Checks C = new Checks();
    private static final String DESK = "plain 0 1 0 0;";

    public static void main(String[] args) {
        newObject();
        feedAndEnd();
        cuts();
        refusedTexts();
        refusedTextOfFullTape();
        textsAndPlaces();
        broken();
        wrongNumbers();
        tooMany();
        missingDesk();
        counts();
        images();
        C.finish();
    }

    private static void newObject() {
        DeskRings x = new DeskRings();
        for (int sort = 0; sort < 3; sort++) {
            C.due("count(" + sort + ") of a new object", x.count(sort), 0);
        }
        C.due("fault(0) of a new object", x.fault(0), 0);
        C.due("fault(1) of a new object", x.fault(1), -1);
        C.due("fault(2)", x.fault(2), -1);
        C.due("fault(-1)", x.fault(-1), -1);
        C.due("end(0) of a new object", x.end(0), 0);
        C.due("end(1) of a new object", x.end(1), -1);
        for (int k = -1; k < 4; k++) {
            C.due("again(" + k + ") of a new object", x.again(k), false);
        }
        C.due("NONE", DeskRings.NONE, -1);
    }

    private static void feedAndEnd() {
        DeskRings x = new DeskRings();
        for (int i = 1; i <= 30; i++) {
            C.due("feed " + i, x.feed(0x20202020, 0x0a0a0a0a, 0x20202020, 0x20202020, 0x20202020), 20 * i);
        }
        C.due("feed beyond 600", x.feed(0, 0, 0, 0, 0), -1);
        C.due("end(601)", x.end(601), -1);
        C.due("end(-1)", x.end(-1), -1);
        C.due("end(600)", x.end(600), 600);
        C.due("end(581)", x.end(581), 581);
        C.due("end(582)", x.end(582), -1);
        C.due("feed beyond 600 from 581", x.feed(0, 0, 0, 0, 0), -1);
        C.due("end(580)", x.end(580), 580);
        C.due("feed up to 600", x.feed(0x20202020, 0x20202020, 0x20202020, 0x20202020, 0x20202020), 600);
        C.due("600 blanks", x.text(0, -1), 0);
        C.due("the tape is taken", x.end(1), -1);
        C.due("the highest byte comes first", x.feed(0x65617237, 0x3b000000, 0, 0, 0), 20);
        C.due("end(5)", x.end(5), 5);
        C.due("ear7;", x.text(0, 0), 0);
        C.due("ear", x.office(0, 2), 7);
    }

    /** What stood behind the end is no part of the text, and comes no more. */
    private static void cut(String text, int n, int fault, int place) {
        DeskRings x = new DeskRings();
        Checks.type(x, text);
        C.due("end(" + n + ") of '" + text + "'", x.end(n), n);
        C.due("text of it", x.text(0, -1), fault == 0 ? 0 : -1);
        C.due("fault(0) of it", x.fault(0), fault);
        C.due("fault(1) of it", x.fault(1), place);
    }

    private static void cuts() {
        cut("fade 99;", 6, 1, 6);
        cut("fade 9;fade 10;", 7, 0, -1);
        cut("earear 1;", 3, 1, 3);
        cut("ear 1   ear", 5, 1, 5);
        cut("ear 1;  ear", 8, 0, -1);
        cut("ear 1;;", 0, 0, -1);
        cut("call 0 0 1;" + DESK, 11, 4, 11);
    }

    /** A text that can't have a place takes the tape all the same, and reads nothing of it. */
    private static void refused(DeskRings x, int sort, int at) {
        String call = "text(" + sort + ", " + at + ")";
        int[] counts = {x.count(0), x.count(1), x.count(2)};
        Checks.tell(x, 0, 0, "oh");
        Checks.type(x, "ear 7;");
        C.due(call, x.text(sort, at), -2);
        C.due("the tape has no byte behind " + call, x.end(1), -1);
        C.due("the tape is empty behind " + call, x.feed(0, 0, 0, 0, 0), 20);
        C.due("an empty tape behind " + call, x.end(0), 0);
        C.due("fault 0 by " + call, x.fault(0), 0);
        C.due("no place by " + call, x.fault(1), -1);
        for (int k = 0; k < 3; k++) {
            C.due("count(" + k + ") behind " + call, x.count(k), counts[k]);
        }
    }

    private static void refusedTexts() {
        int[] sorts = {-2, -1, 3, 4, Integer.MIN_VALUE, Integer.MAX_VALUE};
        int[] nowhere = {-2, 2, 3, Integer.MIN_VALUE, Integer.MAX_VALUE};
        for (int sort = 0; sort < 3; sort++) {
            DeskRings x = new DeskRings();
            for (int told = 0; told < 2; told++) {
                for (int at = told; at < 2; at++) {
                    refused(x, sort, at);
                }
                for (int at : nowhere) {
                    refused(x, sort, at);
                }
                C.due("a further one of " + sort, Checks.tell(x, sort, -1, ""), told);
            }
            refused(x, sort, -1);
            refused(x, sort, 2);
            for (int other : sorts) {
                refused(x, other, -1);
                refused(x, other, 0);
            }
        }
    }

    private static void refusedTextOfFullTape() {
        DeskRings x = new DeskRings();
        for (int k = 1; k <= 30; k++) {
            x.feed(k, k, k, k, k);
        }
        x.image(0);
        C.due("a full tape", x.feed(0, 0, 0, 0, 0), -1);
        C.due("text(0, 0) of a full tape", x.text(0, 0), -2);
        C.due("the tape takes again", x.feed(0, 0, 0, 0, 0), 20);
        C.due("the image has the tape", x.again(0), true);
        C.due("it is full again", x.end(600), 600);
    }

    private static void textsAndPlaces() {
        DeskRings x = new DeskRings();
        Checks.type(x, "oh");
        C.due("a text with a fault", x.text(0, -1), -1);
        C.due("its fault", x.fault(0), 1);
        C.due("its place", x.fault(1), 0);
        String[] first = {"ear 1;", "away 1;", "silent 1;"};
        String[] second = {"ear 2;", "back 2;away 3;", "silent 2;silent 3;"};
        for (int sort = 0; sort < 3; sort++) {
            C.due("first of " + sort, Checks.tell(x, sort, -1, first[sort]), 0);
            C.due("second of " + sort, Checks.tell(x, sort, -1, second[sort]), 1);
            C.due("third of " + sort, Checks.tell(x, sort, -1, ""), -2);
            C.due("at 2 of " + sort, x.text(sort, 2), -2);
            C.due("count of " + sort, x.count(sort), 2);
        }
        C.due("at 0", Checks.tell(x, 0, 0, "ear 9;"), 0);
        C.due("replaced", x.office(0, 2), 9);
        C.due("the other stays", x.office(1, 2), 2);
        C.due("at 1, a fault", Checks.tell(x, 0, 1, "ear 9"), -1);
        C.due("it stays by a fault", x.office(1, 2), 2);
        C.due("day 1", x.deed(1, -1, 0), 2);
        C.due("at 1", Checks.tell(x, 1, 1, ""), 1);
        C.due("day 1 replaced", x.deed(1, -1, 0), 0);
        C.due("log 1", x.fact(1, -1, 0), 2);
        C.due("at 1", Checks.tell(x, 2, 1, "silent 0;"), 1);
        C.due("log 1 replaced", x.fact(1, -1, 0), 1);
    }

    private static void broken() {
        C.fault(0, "", 0, -1);
        C.fault(0, " \n ", 0, -1);
        C.fault(0, "ear4;", 0, -1);
        C.fault(0, "\near\n04 ;\n", 0, -1);
        C.fault(0, "plain 1 2 3 4;", 0, -1);
        C.fault(0, "ear;", 1, 3);
        C.fault(0, "ear ;", 1, 4);
        C.fault(0, "ear 4", 1, 5);
        C.fault(0, "ear 4 \n", 1, 7);
        C.fault(0, "ear", 1, 3);
        C.fault(0, "ear 4;;", 1, 6);
        C.fault(0, ";", 1, 0);
        C.fault(0, " 4", 1, 1);
        C.fault(0, "ears 4;", 1, 0);
        C.fault(0, "ea 4;", 1, 0);
        C.fault(0, "ear 4;ring 1;", 1, 6);
        C.fault(0, "ear 123;", 1, 4);
        C.fault(0, "ear 4 5;", 1, 6);
        C.fault(0, "ear four;", 1, 4);
        C.fault(0, "earz 4;", 1, 0);
        C.fault(0, "bear 1 1 1 1;", 1, 0);
        C.fault(0, "made 4;", 1, 0);
        C.fault(1, "bead 4;", 1, 0);
        C.fault(2, "gifted 1 2 3;", 1, 0);
        C.fault(0, "ear 4!", 1, 5);
        C.fault(0, "ear 4 123;", 1, 6);
        C.fault(0, "ear 4 \u00bb;", 1, 6);
        C.fault(0, "Ear 4;", 1, 0);
        C.fault(0, "eaR 4;", 1, 0);
        C.fault(0, "ear\t4;", 1, 3);
        C.fault(0, "ear -4;", 1, 4);
        C.fault(0, "ear 4; \u00e9", 1, 7);
        C.fault(0, "ear 4;\u0000", 1, 6);
        C.fault(0, "plain 1 2 3;", 1, 11);
        C.fault(0, "call 1 2;", 1, 8);
        C.fault(1, "ring 1", 1, 6);
        C.fault(1, "ear 1;", 1, 0);
        C.fault(1, "ring 1 1;", 1, 7);
        C.fault(1, "ring 1;away 2;back 3;read 4;", 0, -1);
        C.fault(2, "lifted 1 2;", 1, 10);
        C.fault(2, "silent 1 2;", 1, 9);
        C.fault(2, "read 1;", 1, 0);
        C.fault(2, "lifted 1 2 3;silent 4;", 0, -1);
        String[][] words = {{"plain", "soft", "deaf", "fair", "near", "call", "ear", "machine", "fade"},
            {"ring", "away", "back", "read"}, {"lifted", "silent"}};
        for (int sort = 0; sort < 3; sort++) {
            for (int other = 0; other < 3; other++) {
                for (String word : words[other]) {
                    // A word of another sort is broken itself; one of this sort, what follows it.
                    C.fault(sort, word + " ;", 1, sort == other ? word.length() + 1 : 0);
                }
            }
        }
        // A broken text is so even if a wrong number stands before that.
        C.fault(0, "ear 31;ear 31", 1, 13);
        C.fault(0, DESK.repeat(9) + "x", 1, 126);
    }

    private static void wrongNumbers() {
        C.fault(0, "plain 30 12 20 10;", 0, -1);
        C.fault(0, "plain 31 13 21 11;", 2, 6);
        C.fault(0, "soft 30 13 0 0;", 2, 8);
        C.fault(0, "deaf 30 0 0 0;", 2, 8);
        C.fault(0, "fair 1 1 21 0;", 2, 9);
        C.fault(0, "near 1 1 20 11;", 2, 12);
        C.fault(0, DESK + "call 0 99 20;", 0, -1);
        C.fault(0, "call 8 0 1;", 2, 5);
        C.fault(0, "call 0 0 0;", 2, 9);
        C.fault(0, "call 0 0 21;", 2, 9);
        C.fault(0, "ear 30;machine 20;fade 9;", 0, -1);
        C.fault(0, "ear 0;machine 0;fade 0;", 0, -1);
        C.fault(0, "ear 31;", 2, 4);
        C.fault(0, "machine 21;", 2, 8);
        C.fault(0, "fade 10;", 2, 5);
        C.fault(1, "ring 9;away 7;back 7;read 7;", 0, -1);
        C.fault(1, "ring 10;", 2, 5);
        C.fault(1, "away 8;", 2, 5);
        C.fault(1, "back 8;", 2, 5);
        C.fault(1, "read 99;", 2, 5);
        C.fault(2, "lifted 7 6 12;silent 7;", 0, -1);
        C.fault(2, "lifted 8 8 13;", 2, 7);
        C.fault(2, "lifted 0 8 1;", 2, 9);
        C.fault(2, "lifted 0 00 1;", 2, 9);
        C.fault(2, "lifted 0 1 0;", 2, 11);
        C.fault(2, "lifted 0 1 13;", 2, 11);
        C.fault(2, "silent 8;", 2, 7);
        C.fault(0, "ear 30;ear 31;machine 99;call 3 3 3;", 2, 11);
    }

    private static void tooMany() {
        C.fault(0, DESK.repeat(8), 0, -1);
        C.fault(0, DESK.repeat(9), 3, 112);
        C.fault(0, DESK.repeat(8) + "ear 31;" + DESK, 2, 116);
        C.fault(0, DESK.repeat(8) + " soft 31 0 21 11;", 3, 113);
        String call = "call 0 1 1;";
        C.fault(0, DESK + call.repeat(10), 0, -1);
        C.fault(0, DESK + call.repeat(11), 3, 14 + 110);
        C.fault(0, call.repeat(11), 3, 110);
        C.fault(1, "ring 1;".repeat(40), 0, -1);
        C.fault(1, "ring 1;".repeat(41), 3, 280);
        C.fault(1, "ring 1;".repeat(30) + "read 8;" + "ring 1;".repeat(10), 2, 215);
        C.fault(2, "silent 1;".repeat(8), 0, -1);
        C.fault(2, "silent 1;".repeat(7) + "lifted 1 2 3;".repeat(2), 3, 76);
    }

    private static void missingDesk() {
        C.fault(0, "call 0 0 1;", 4, 11);
        C.fault(0, "call 1 0 1;" + DESK + " ", 4, 26);
        C.fault(0, "call 1 0 1;" + DESK.repeat(2), 0, -1);
        C.fault(0, "call 7 0 1;" + DESK.repeat(8), 0, -1);
        C.fault(1, "read 7;ring 9;", 0, -1);
        C.fault(2, "silent 7;", 0, -1);
    }

    private static void counts() {
        DeskRings x = new DeskRings();
        C.due("count(3)", x.count(3), -2);
        C.due("count(-1)", x.count(-1), -2);
        Checks.tell(x, 2, -1, "silent 1;");
        C.due("count(0)", x.count(0), 0);
        C.due("count(1)", x.count(1), 0);
        C.due("count(2)", x.count(2), 1);
    }

    private static void images() {
        DeskRings x = Checks.office(DESK + "ear 3;");
        Checks.tell(x, 1, -1, "away 0;");
        Checks.tell(x, 2, -1, "silent 5;");
        Checks.tell(x, 0, -1, "ear");
        Checks.type(x, "ear 29;");
        C.due("image(3)", x.image(3), false);
        C.due("image(-1)", x.image(-1), false);
        C.due("image(1)", x.image(1), true);
        C.due("again(0)", x.again(0), false);
        C.due("again(2)", x.again(2), false);
        C.due("again(3)", x.again(3), false);
        C.due("again(-1)", x.again(-1), false);
        C.due("text", x.text(0, 0), 0);
        C.due("ear", x.office(0, 2), 29);
        Checks.tell(x, 0, -1, DESK + DESK);
        Checks.tell(x, 1, 0, "back 0;ring 1;");
        Checks.tell(x, 2, 0, "");
        C.due("image(2)", x.image(2), true);
        Checks.type(x, "x");
        C.due("again(1)", x.again(1), true);
        told(x);
        Checks.tell(x, 1, 0, "");
        C.due("again(1) once more", x.again(1), true);
        told(x);
        C.due("the tape too", x.text(0, 0), 0);
        C.due("what was on it", x.office(0, 2), 29);
        C.due("again(2)", x.again(2), true);
        C.due("count(0)", x.count(0), 2);
        C.due("office 1", x.office(1, 0), 2);
        C.due("day 0", x.deed(0, -1, 0), 2);
        C.due("log 0", x.fact(0, -1, 0), 0);
        C.due("fault(0)", x.fault(0), 0);
        C.due("fault(1)", x.fault(1), -1);
        C.due("tape", x.end(1), -1);
        C.due("image(0)", x.image(0), true);
        Checks.tell(x, 0, 1, "");
        C.due("again(0)", x.again(0), true);
        C.due("office 1", x.office(1, 0), 2);
        C.due("image(1) anew", x.image(1), true);
        Checks.tell(x, 0, 1, "");
        C.due("again(1)", x.again(1), true);
        C.due("office 1", x.office(1, 0), 2);
    }

    private static void told(DeskRings x) {
        C.due("count(0)", x.count(0), 1);
        C.due("ear", x.office(0, 2), 3);
        C.due("desks", x.office(0, 0), 1);
        C.due("deed", x.deed(0, 0, 0), 1);
        C.due("deeds", x.deed(0, -1, 0), 1);
        C.due("fact", x.fact(0, 0, 1), 5);
        C.due("fault(0)", x.fault(0), 1);
        C.due("fault(1)", x.fault(1), 3);
        C.due("tape", x.end(8), -1);
        C.due("tape", x.end(7), 7);
    }
}
