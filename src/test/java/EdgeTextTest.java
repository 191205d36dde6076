/** Terms 1 at their edges: bounds of every number, tokens, how many there may be of each thing, faults and places. */
public final class EdgeTextTest {
    private static final Checks C = new Checks();
    private static final String DESK = "plain 0 1 0 0;";
    private static final String CALL = "call 0 0 1;";
    private static final String[] KINDS = {"plain", "soft", "deaf", "fair", "near"};
    private static final String[][] WORDS = {{"plain", "soft", "deaf", "fair", "near", "call", "ear", "machine", "fade"},
        {"ring", "away", "back", "read"}, {"lifted", "silent"}};
    private static final int[][] NUMBERS = {{4, 4, 4, 4, 4, 3, 1, 1, 1}, {1, 1, 1, 1}, {3, 1}};

    public static void main(String[] args) {
        numbersOfDesks();
        numbersOfCalls();
        numbersOfAnOffice();
        numbersOfDeeds();
        numbersOfFacts();
        digits();
        laterOnesStrike();
        valuesAtFirst();
        blanks();
        everyByte();
        words();
        tooFewAndTooManyNumbers();
        everyCut();
        asManyAsMayBe();
        oneMore();
        brokenComesFirst();
        firstByPlace();
        missingDesks();
        wholeTape();
        C.finish();
    }

    /** One number of a line takes all values from 0 to 99, the others stay; answers how the line is read. */
    private static DeskRings tryNumber(int sort, String before, String word, int[] line, int at, int value) {
        StringBuilder text = new StringBuilder(before).append(word);
        int place = 0;
        for (int i = 0; i < line.length; i++) {
            text.append(' ');
            place = i == at ? text.length() : place;
            text.append(i == at ? value : line[i]);
        }
        text.append(';');
        DeskRings x = new DeskRings();
        boolean read = Checks.tell(x, sort, -1, text.toString()) == 0;
        C.due("fault 0 or 2 of '" + text + "'", x.fault(0), read ? 0 : 2);
        C.due("its place in '" + text + "'", x.fault(1), read ? -1 : place);
        C.due("how many are there", x.count(sort), read ? 1 : 0);
        return read ? x : null;
    }

    private static void can(String what, DeskRings x, int value, int least, int most) {
        C.due(what + " can be " + value, x != null, value >= least && value <= most);
    }

    private static void numbersOfDesks() {
        int[] least = {0, 1, 0, 0};
        int[] most = {30, 12, 20, 10};
        for (int kind = 0; kind < 5; kind++) {
            for (int at = 0; at < 4; at++) {
                for (int value = 0; value <= 99; value++) {
                    DeskRings x = tryNumber(0, "", KINDS[kind], new int[] {5, 6, 7, 8}, at, value);
                    can(KINDS[kind] + ", number " + at, x, value, least[at], most[at]);
                    if (x != null) {
                        C.due("it is told", x.office(0, 20 + 10 * at), value);
                        C.due("its kind", x.office(0, 10), kind);
                    }
                }
            }
        }
    }

    private static void numbersOfCalls() {
        int[] least = {0, 0, 1};
        int[] most = {7, 99, 20};
        for (int at = 0; at < 3; at++) {
            for (int value = 0; value <= 99; value++) {
                DeskRings x = tryNumber(0, DESK.repeat(8), "call", new int[] {5, 6, 7}, at, value);
                can("call, number " + at, x, value, least[at], most[at]);
                if (x != null) {
                    C.due("it is told", x.office(0, 60 + 10 * at), value);
                }
            }
        }
    }

    private static void numbersOfAnOffice() {
        int[] most = {30, 20, 9};
        for (int word = 0; word < 3; word++) {
            for (int value = 0; value <= 99; value++) {
                DeskRings x = tryNumber(0, "", WORDS[0][6 + word], new int[1], 0, value);
                can(WORDS[0][6 + word], x, value, 0, most[word]);
                if (x != null) {
                    C.due("it is told", x.office(0, 2 + word), value);
                }
            }
        }
    }

    private static void numbersOfDeeds() {
        for (int word = 0; word < 4; word++) {
            for (int value = 0; value <= 99; value++) {
                DeskRings x = tryNumber(1, "", WORDS[1][word], new int[1], 0, value);
                can(WORDS[1][word], x, value, 0, word == 0 ? 9 : 7);
                if (x != null) {
                    C.due("the deed", x.deed(0, 0, 0), word);
                    C.due("its number", x.deed(0, 0, 1), value);
                }
            }
        }
    }

    private static void numbersOfFacts() {
        for (int value = 0; value <= 99; value++) {
            DeskRings silent = tryNumber(2, "", "silent", new int[1], 0, value);
            can("silent", silent, value, 0, 7);
            if (silent != null) {
                C.due("which desk rang", silent.fact(0, 0, 1), value);
            }
            can("lifted, ring", tryNumber(2, "", "lifted", new int[] {5, 6, 7}, 2, value), value, 1, 12);
            if (value != 6) {
                can("lifted, which desk", tryNumber(2, "", "lifted", new int[] {5, 6, 7}, 0, value), value, 0, 7);
            }
        }
        // Who lifts can't be whose desk rang: a fault of his own number.
        for (int desk = 0; desk <= 9; desk++) {
            for (int who = 0; who <= 9; who++) {
                int fault = desk > 7 || who > 7 || who == desk ? 2 : 0;
                int place = fault == 0 ? -1 : desk > 7 ? 7 : 9;
                C.fault(2, "lifted " + desk + " " + who + " 12;", fault, place);
                C.fault(2, "lifted " + desk + " 0" + who + " 1;", fault, place);
            }
        }
    }

    private static void digits() {
        C.fault(0, "ear 0;ear 00;ear 01;ear 30;", 0, -1);
        C.fault(0, "ear 000;", 1, 4);
        C.fault(0, "ear 001;", 1, 4);
        C.fault(0, "ear 300;", 1, 4);
        C.fault(0, "ear 0000000000000000000000000000000001;", 1, 4);
        C.fault(0, "ear 4294967297;", 1, 4);
        C.fault(0, DESK + "call 0 100 1;", 1, 21);
        C.fault(0, DESK + "call 0 099 1;", 1, 21);
        C.fault(0, "123;", 1, 0);
        C.fault(0, "ear 4 123", 1, 6);
        C.fault(1, "ring 010;", 1, 5);
        C.fault(2, "lifted 1 2 012;", 1, 11);
        C.due("two digits", Checks.office("ear 07;").office(0, 2), 7);
        C.due("two digits", Checks.office("fade 09;").office(0, 4), 9);
    }

    private static void laterOnesStrike() {
        DeskRings x = Checks.office("ear 1;machine 2;fade 3;ear 30;machine 20;fade 9;ear 4;machine 5;fade 6;");
        C.due("the last EAR", x.office(0, 2), 4);
        C.due("the last MACHINE", x.office(0, 3), 5);
        C.due("the last FADE", x.office(0, 4), 6);
        x = Checks.office("machine 5;machine 0;ear 5;ear 0;fade 5;fade 0;");
        C.due("no EAR", x.office(0, 2), 0);
        C.due("no MACHINE", x.office(0, 3), 0);
        C.due("no FADE", x.office(0, 4), 0);
        // What is struck must be right all the same.
        C.fault(0, "ear 31;ear 3;", 2, 4);
        // A later EAR is that of desks told before.
        x = Checks.office("ear 30;plain 0 1 0 0;plain 5 1 0 0;ear 4;");
        C.due("by the last EAR", x.rooms(0, false), 2);
        x = Checks.office(DESK + "soft 1 1 1 1;" + DESK + CALL + CALL);
        C.due("further desks", x.office(0, 0), 3);
        C.due("further calls", x.office(0, 1), 2);
        C.due("further deeds", Checks.officeAndDay("", "away 0;away 0;").deed(0, -1, 0), 2);
        C.due("further facts", Checks.officeAndLog("", "silent 0;silent 0;").fact(0, -1, 0), 2);
    }

    /** A text in the place of another has nothing of that. */
    private static void valuesAtFirst() {
        DeskRings x = Checks.office("ear 3;machine 4;fade 5;" + DESK + CALL);
        Checks.tell(x, 1, -1, "away 0;");
        Checks.tell(x, 2, -1, "silent 0;");
        for (int sort = 0; sort < 3; sort++) {
            C.due("a text of nothing", x.text(sort, 0), 0);
        }
        int[] atFirst = {0, 0, 10, 0, 1};
        for (int what = 0; what < 5; what++) {
            C.due("at first", x.office(0, what), atFirst[what]);
        }
        C.due("no deeds", x.deed(0, -1, 0), 0);
        C.due("no facts", x.fact(0, -1, 0), 0);
        // A text with a fault leaves nothing to the next one, either.
        Checks.tell(x, 0, 0, "ear 3;machine 4;fade 5;" + DESK + CALL + "oh");
        Checks.tell(x, 1, 0, "away 0;oh");
        Checks.tell(x, 2, 0, "silent 0;oh");
        C.due("the next office", Checks.tell(x, 0, 0, DESK), 0);
        C.due("the next day", Checks.tell(x, 1, 0, "back 7;"), 0);
        C.due("the next log", Checks.tell(x, 2, 0, "silent 7;"), 0);
        C.due("its desks", x.office(0, 0), 1);
        for (int what = 1; what < 5; what++) {
            C.due("at first", x.office(0, what), atFirst[what]);
        }
        C.due("its deeds", x.deed(0, -1, 0), 1);
        C.due("its deed", x.deed(0, 0, 0), 2);
        C.due("its facts", x.fact(0, -1, 0), 1);
        C.due("its fact", x.fact(0, 0, 1), 7);
    }

    private static void blanks() {
        C.fault(0, "", 0, -1);
        C.fault(0, "\n", 0, -1);
        C.fault(0, " ".repeat(40), 0, -1);
        C.fault(0, "plain1 2 3 4;", 0, -1);
        C.fault(0, "plain 1\n2\n\n3  4 \n ; \n", 0, -1);
        C.fault(0, "ear4;ear5;\near 6;", 0, -1);
        C.fault(0, "pl ain 1 2 3 4;", 1, 0);
        C.fault(0, "e ar 1;", 1, 0);
        C.fault(0, "ear 1 2;", 1, 6);
        C.fault(1, "ring0;", 0, -1);
        C.fault(2, "silent0;lifted1 2 3;", 0, -1);
    }

    /** Each byte, before, amid and behind a line: but for the two blanks nearly all are faults. */
    private static void everyByte() {
        for (int b = 0; b < 256; b++) {
            char sign = (char) b;
            boolean blank = b == 10 || b == 32;
            boolean letter = b >= 'a' && b <= 'z';
            boolean digit = b >= '0' && b <= '9';
            C.fault(0, "ear 4;" + sign, blank ? 0 : 1, blank ? -1 : 6);
            if (blank) {
                C.fault(0, "ear" + sign + "4" + sign + ";", 0, -1);
            } else if (letter) {
                C.fault(0, "ear" + sign + "4;", 1, 0);
                C.fault(0, "ear 4" + sign + ";", 1, 5);
                // 'n' makes another word, of four numbers.
                C.fault(0, sign + "ear 4;", 1, sign == 'n' ? 6 : 0);
            } else if (digit) {
                boolean can = b <= '2';
                C.fault(0, "ear" + sign + "4;", can ? 0 : 2, can ? -1 : 3);
                C.fault(0, "ear 4" + sign + ";", 2, 4);
                C.fault(0, sign + "ear 4;", 1, 0);
            } else {
                C.fault(0, "ear" + sign + "4;", 1, 3);
                C.fault(0, "ear 4" + sign + ";", 1, b == ';' ? 6 : 5);
                C.fault(0, sign + "ear 4;", 1, 0);
            }
        }
    }

    private static String line(String word, int numbers) {
        return word + " 1 2 3 4 5".substring(0, 2 * numbers) + ";";
    }

    private static void words() {
        for (int sort = 0; sort < 3; sort++) {
            for (int w = 0; w < WORDS[sort].length; w++) {
                String word = WORDS[sort][w];
                int numbers = NUMBERS[sort][w];
                String before = sort == 0 ? DESK + DESK : "";
                int at = before.length();
                C.fault(sort, before + line(word, numbers), 0, -1);
                C.fault(sort, before + line(word + "s", numbers), 1, at);
                C.fault(sort, before + line(word.substring(0, word.length() - 1), numbers), 1, at);
                C.fault(sort, before + line(word.substring(0, 1), numbers), 1, at);
                C.fault(sort, before + line(word.toUpperCase(), numbers), 1, at);
                C.fault(sort, before + line(word + word, numbers), 1, at);
                for (int i = 0; i < word.length(); i++) {
                    C.fault(sort, before + line(word.substring(0, i) + 'q' + word.substring(i + 1), numbers), 1, at);
                }
                for (int other = 0; other < 3; other++) {
                    if (other != sort) {
                        C.fault(other, line(word, numbers), 1, 0);
                    }
                }
            }
        }
    }

    private static void tooFewAndTooManyNumbers() {
        for (int sort = 0; sort < 3; sort++) {
            for (int w = 0; w < WORDS[sort].length; w++) {
                String word = WORDS[sort][w];
                for (int numbers = 0; numbers <= 5; numbers++) {
                    int right = NUMBERS[sort][w];
                    if (numbers != right) {
                        // Too few: the ; is wrong; too many: the first number beyond.
                        int place = word.length() + (numbers < right ? 2 * numbers : 2 * right + 1);
                        C.fault(sort, line(word, numbers), 1, place);
                    }
                }
                C.fault(sort, line(word, NUMBERS[sort][w]) + ";", 1, word.length() + 2 * NUMBERS[sort][w] + 1);
                C.fault(sort, word + " " + word, 1, word.length() + 1);
            }
        }
    }

    /** A text that ends within a line is broken at its end. */
    private static void everyCut() {
        String[] texts = {" plain 10 1 20 0 ; call 0 99 20;ear 3 ;\n", "ring 0;\n away 7 ;", "lifted 0 1 12; silent 7;"};
        for (int sort = 0; sort < 3; sort++) {
            int whole = 0;
            for (int n = 0; n <= texts[sort].length(); n++) {
                String text = texts[sort].substring(0, n);
                boolean ends = text.isBlank() || text.stripTrailing().endsWith(";");
                String stripped = text.stripTrailing();
                String word = stripped.replaceAll(".*[^a-z]", "");
                boolean cutWord = !word.isEmpty() && !java.util.Arrays.asList(WORDS[sort]).contains(word);
                int place = cutWord ? stripped.length() - word.length() : n;
                C.fault(sort, text, ends ? 0 : 1, ends ? -1 : place);
                whole += ends ? 1 : 0;
            }
            C.due("some are whole", whole > 2, true);
        }
    }

    private static void asManyAsMayBe() {
        StringBuilder office = new StringBuilder();
        for (int k = 0; k < 10; k++) {
            office.append("call ").append(7 - k % 8).append(' ').append(90 + k).append(' ').append(k + 1).append(';');
            if (k < 8) {
                office.append(KINDS[k % 5]).append(' ').append(k).append(' ').append(k + 1).append(" 0 10;");
            }
        }
        DeskRings x = Checks.office(office.toString());
        C.due("8 desks", x.office(0, 0), 8);
        C.due("10 calls", x.office(0, 1), 10);
        for (int k = 0; k < 10; k++) {
            C.due("kind " + k, x.office(0, 10 + k), k < 8 ? k % 5 : -1);
            C.due("place " + k, x.office(0, 20 + k), k < 8 ? k : -1);
            C.due("rings " + k, x.office(0, 30 + k), k < 8 ? k + 1 : -1);
            C.due("desk of call " + k, x.office(0, 60 + k), 7 - k % 8);
            C.due("worth of call " + k, x.office(0, 70 + k), 90 + k);
            C.due("patience of call " + k, x.office(0, 80 + k), k + 1);
        }
        // What is no desk and no call may be told as often as it fits.
        C.fault(0, "ear 1;".repeat(100), 0, -1);
        C.fault(0, "fade 1;".repeat(85), 0, -1);
        C.fault(0, DESK.repeat(8) + "machine 1;".repeat(30) + CALL.repeat(10), 0, -1);
        x = Checks.officeAndDay("", "away 6;back 5;ring 9;read 4;".repeat(10));
        C.due("40 deeds", x.deed(0, -1, 0), 40);
        C.due("the last deed", x.deed(0, 39, 0), 3);
        C.due("its number", x.deed(0, 39, 1), 4);
        x = Checks.officeAndLog("", "lifted 1 2 3;silent 4;".repeat(4));
        C.due("8 facts", x.fact(0, -1, 0), 8);
        C.due("the last fact", x.fact(0, 7, 1), 4);
    }

    private static void oneMore() {
        for (String kind : KINDS) {
            C.fault(0, DESK.repeat(8) + " " + kind + " 1 1 1 1;", 3, 113);
            C.fault(0, DESK.repeat(7) + line(kind, 4) + "\near 3;" + line("soft", 4),
                    3, 98 + line(kind, 4).length() + 8 - 1);
        }
        C.fault(0, DESK.repeat(10), 3, 112);
        C.fault(0, DESK + CALL.repeat(10) + " " + CALL, 3, 14 + 111);
        C.fault(0, DESK + CALL.repeat(12), 3, 14 + 110);
        C.fault(0, CALL.repeat(10) + DESK.repeat(8) + CALL + DESK, 3, 110 + 112);
        C.fault(0, CALL.repeat(10) + DESK.repeat(8) + DESK + CALL, 3, 110 + 112);
        for (String word : WORDS[1]) {
            C.fault(1, "ring 1;".repeat(39) + line(word, 1), 0, -1);
            C.fault(1, "ring 1;".repeat(40) + line(word, 1), 3, 280);
            C.fault(1, line(word, 1) + "away 1;".repeat(41), 3, 280);
        }
        C.fault(2, "silent 1;".repeat(8) + "silent 1;", 3, 72);
        C.fault(2, "silent 1;".repeat(8) + "lifted 1 2 3;", 3, 72);
        C.fault(2, "lifted 1 2 3;".repeat(7) + "silent 1;", 0, -1);
        C.fault(2, "lifted 1 2 3;".repeat(8) + "silent 1;", 3, 104);
    }

    /** FAULT 1, wherever it is, is before all others. */
    private static void brokenComesFirst() {
        C.fault(0, "ear 31;oh", 1, 7);
        C.fault(0, "ear 31", 1, 6);
        C.fault(0, "ear 31 31;", 1, 7);
        C.fault(0, DESK.repeat(9) + ";", 1, 126);
        C.fault(0, CALL + "!", 1, 11);
        C.fault(0, DESK + CALL.repeat(11) + "ear", 1, 14 + 124);
        C.fault(1, "ring 10;ring", 1, 12);
        C.fault(1, "ring 1;".repeat(41) + "1", 1, 287);
        C.fault(2, "lifted 1 1 1;x", 1, 13);
        C.fault(2, "silent 1;".repeat(9) + "silent 100;", 1, 88);
        // Of several such the first.
        C.fault(0, "oh ear ! 100", 1, 0);
        C.fault(0, "ear ! oh 100", 1, 4);
        C.fault(0, "ear 100 oh !", 1, 4);
        C.fault(0, "ear 1 oh !", 1, 6);
    }

    /** FAULTS 2 and 3 by their places; a line with a wrong number counts all the same; FAULT 4 comes last. */
    private static void firstByPlace() {
        C.fault(0, "plain 31 0 21 11;", 2, 6);
        C.fault(0, "plain 30 0 21 11;", 2, 9);
        C.fault(0, "plain 30 1 21 11;", 2, 11);
        C.fault(0, "plain 30 1 20 11;", 2, 14);
        C.fault(0, "call 8 99 21;", 2, 5);
        C.fault(0, "call 7 99 21;", 2, 10);
        C.fault(0, "ear 31;machine 21;", 2, 4);
        C.fault(0, "ear 30;machine 21;", 2, 15);
        C.fault(0, DESK.repeat(8) + "plain 31 0 21 11;", 3, 112);
        C.fault(0, "plain 31 0 21 11;" + DESK.repeat(8), 2, 6);
        C.fault(0, DESK.repeat(7) + "plain 31 1 0 0;" + DESK, 2, 98 + 6);
        C.fault(0, DESK.repeat(8) + "ear 31;" + DESK, 2, 116);
        C.fault(0, DESK.repeat(8) + DESK + "ear 31;", 3, 112);
        C.fault(0, DESK + CALL.repeat(9) + "call 0 0 21;" + CALL, 2, 14 + 99 + 9);
        C.fault(0, DESK + CALL.repeat(10) + "call 8 0 0;", 3, 124);
        C.fault(1, "ring 1;".repeat(39) + "away 8;" + "ring 1;", 2, 278);
        C.fault(1, "ring 1;".repeat(40) + "away 8;", 3, 280);
        C.fault(2, "silent 1;".repeat(7) + "lifted 1 1 1;silent 1;", 2, 63 + 9);
        C.fault(2, "silent 1;".repeat(8) + "lifted 1 1 1;", 3, 72);
        C.fault(2, "lifted 8 8 13;", 2, 7);
        C.fault(2, "lifted 7 8 13;", 2, 9);
        C.fault(2, "lifted 7 7 13;", 2, 9);
        C.fault(2, "lifted 7 6 13;", 2, 11);
        C.fault(0, "call 3 3 3;ear 31;", 2, 15);
        C.fault(0, "plain 31 1 0 0;" + CALL, 2, 6);
        C.fault(0, "call 8 0 1;", 2, 5);
        C.fault(0, DESK.repeat(8) + "call 8 0 1;", 2, 117);
        C.fault(0, "call 9 0 1;" + DESK.repeat(9), 2, 5);
        C.fault(0, CALL.repeat(11), 3, 110);
    }

    private static void missingDesks() {
        for (int desk = 0; desk <= 7; desk++) {
            for (int desks = 0; desks <= 8; desks++) {
                boolean there = desk < desks;
                String call = "call " + desk + " 5 5;";
                int end = 11 + 14 * desks;
                C.fault(0, call + DESK.repeat(desks), there ? 0 : 4, there ? -1 : end);
                C.fault(0, DESK.repeat(desks) + call + "  \n", there ? 0 : 4, there ? -1 : end + 3);
            }
        }
        C.fault(0, "call 0 0 1;call 1 0 1;" + DESK, 4, 36);
        C.fault(0, "call 1 0 1;call 0 0 1;" + DESK, 4, 36);
        C.fault(0, CALL.repeat(9) + "call 1 0 1;" + DESK, 4, 124);
        // Neither a day nor a log has an office of its own.
        C.fault(1, "ring 9;away 7;back 7;read 7;", 0, -1);
        C.fault(2, "lifted 7 0 1;silent 7;", 0, -1);
    }

    /** A text of all 600 bytes, the last of which counts. */
    private static void wholeTape() {
        C.fault(0, " ".repeat(594) + "ear 7;", 0, -1);
        C.fault(0, "\n".repeat(595) + "ear 7", 1, 600);
        C.fault(0, " ".repeat(593) + "ear 31;", 2, 597);
        C.fault(0, " ".repeat(589) + CALL, 4, 600);
        C.fault(0, " ".repeat(599) + "!", 1, 599);
        C.fault(0, "a".repeat(600), 1, 0);
        C.fault(0, "1".repeat(600), 1, 0);
        C.fault(0, ";".repeat(600), 1, 0);
        C.fault(0, "ear 1;".repeat(100), 0, -1);
        C.due("the last line", Checks.office("ear 1;".repeat(99) + "ear 8;").office(0, 2), 8);
        C.fault(1, " ".repeat(320) + "ring 1;".repeat(40), 0, -1);
        C.fault(1, " ".repeat(313) + "ring 1;".repeat(41), 3, 593);
        C.fault(2, " ".repeat(519) + "silent 1;".repeat(9), 3, 591);
    }
}
