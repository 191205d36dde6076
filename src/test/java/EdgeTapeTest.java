/** Promises 1 to 5 and 38 to 40 at their edges: nothing told yet, an empty and a full tape, refused calls, images. */
public final class EdgeTapeTest {
    private static final Checks C = new Checks();
    private static final int LEAST = Integer.MIN_VALUE;
    private static final int MOST = Integer.MAX_VALUE;
    private static final int BLANK = 0x20202020;
    private static final int OTHER = 0x78787878;

    public static void main(String[] args) {
        promise1NothingIsTold();
        promise2FeedUpTo600();
        promise2RefusedFeedLeavesTheTape();
        promise2OrderOfBytes();
        promise2AnyNumber();
        promise3EndsOfTheTape();
        promise3RefusedEndLeavesTheTape();
        promise4EmptyTape();
        promise4TwoOfEachSort();
        promise4Refused();
        promise4FaultLeavesWhatWasTold();
        promise5LatestText();
        promise5AnotherWhat();
        promise38AnotherSort();
        promise39AnotherImage();
        promise39AllThatIsTold();
        promise40NoSuchImage();
        promise40OtherImagesStay();
        promise40TapesOfAnyLength();
        C.finish();
    }

    /** Every call that asks for an office, a day or a log finds none. */
    private static void promise1NothingIsTold() {
        DeskRings x = new DeskRings();
        for (int n : new int[] {0, 1, 2, -1}) {
            noOffice(x, n);
            C.due("deed of no day", x.deed(n, -1, 0), -2);
            C.due("fact of no log", x.fact(n, -1, 0), -2);
        }
        for (int sort = 0; sort < 3; sort++) {
            C.due("count of a new object", x.count(sort), 0);
        }
        for (int k = 0; k < 3; k++) {
            C.due("no image", x.again(k), false);
        }
        C.due("an empty tape", x.end(0), 0);
        C.due("no byte on it", x.end(1), -1);
        C.due("no fault", x.fault(0), 0);
        C.due("no place", x.fault(1), -1);
    }

    private static void noOffice(DeskRings x, int n) {
        int[] none = {x.office(n, 0), x.stop(n, 0), x.who(n, 0, 0, false), x.who(n, 0, 0, true), x.enough(n),
            x.rest(n, 0, 0, -1), x.lunch(n, 0, false), x.lunch(n, 0, true), x.rule(n, 0, 0), x.board(n, false),
            x.board(n, true), x.rooms(n, false), x.rooms(n, true), x.seat(n, 0, false), x.seat(n, 0, true),
            x.quiet(n, 0), x.given(n, -1), x.curve(n, 1), x.ears(n), x.order(n, 0, -1), x.duty(n, 0, -1),
            x.passed(n, 0, 0), x.tied(n, 0), x.best(n), x.fewer(n, 0, 0, 0), x.loud(n, false), x.loud(n, true)};
        for (int i = 0; i < none.length; i++) {
            C.due("NONE of office " + n + ", call " + i, none[i], -1);
        }
        long[] noneLong = {x.odds(n, 0, false), x.odds(n, 0, true), x.mean(n, 0, false), x.mean(n, 0, true),
            x.button(n, -1), x.button(n, -2), x.empty(n, 0, false), x.empty(n, 0, true)};
        for (int i = 0; i < noneLong.length; i++) {
            C.due("NONE of office " + n + ", long call " + i, noneLong[i], -1);
        }
        int[] two = {x.state(n, 0, 0, 0), x.fits(n, 0, 0), x.drawn(n, 0, 0, 0), x.after(n, 0, 0), x.blame(n, 0, false),
            x.blame(n, 0, true)};
        for (int i = 0; i < two.length; i++) {
            C.due("-2 of office " + n + ", call " + i, two[i], -2);
        }
    }

    private static int feedAll(DeskRings x, int number) {
        return x.feed(number, number, number, number, number);
    }

    private static DeskRings tapeOf(int length) {
        DeskRings x = new DeskRings();
        for (int k = 0; k < (length + 19) / 20; k++) {
            feedAll(x, BLANK);
        }
        C.due("a tape of " + length, x.end(length), length);
        return x;
    }

    private static void promise2FeedUpTo600() {
        DeskRings x = new DeskRings();
        for (int k = 1; k <= 30; k++) {
            C.due("feed " + k, feedAll(x, BLANK), 20 * k);
        }
        C.due("the 31st feed", feedAll(x, BLANK), -1);
        C.due("600 blanks", x.text(0, -1), 0);
        for (int length = 575; length <= 600; length++) {
            int want = length <= 580 ? length + 20 : -1;
            C.due("feed behind " + length, feedAll(tapeOf(length), BLANK), want);
        }
        C.due("feed behind 1", feedAll(tapeOf(1), BLANK), 21);
    }

    /** "and nothing comes": neither is the tape longer nor has it other bytes, nor is it cut. */
    private static void promise2RefusedFeedLeavesTheTape() {
        for (int length : new int[] {581, 590, 599, 600}) {
            String text = " ".repeat(length - 6) + "ear 7;";
            DeskRings x = new DeskRings();
            Checks.type(x, text);
            C.due("feed behind " + length, feedAll(x, OTHER), -1);
            C.due("feed once more behind " + length, feedAll(x, OTHER), -1);
            C.due("no byte more than " + length, x.end(length + 1), -1);
            C.due("no byte less than " + length, x.end(length), length);
            C.due("the text of " + length, x.text(0, -1), 0);
            C.due("what it tells", x.office(0, 2), 7);
        }
    }

    /** Twenty bytes, "of each number the highest first", "behind" what is there. */
    private static void promise2OrderOfBytes() {
        String text = "fade 2;ear 13;machine 19;fade 03;ear 8 ;";
        for (int cut = 0; cut <= text.length(); cut++) {
            DeskRings x = new DeskRings();
            Checks.type(x, text.substring(0, cut));
            C.due("behind " + cut, x.feed(0x206d6163, 0x68696e65, 0x31373b20, 0x0a203b3b, 0x3b3b3b21), cut + 20);
            C.due("its end", x.end(cut + 14), cut + 14);
            boolean whole = cut == 0 || text.charAt(cut - 1) == ';';
            C.due("'" + text.substring(0, cut) + "' and more", x.text(0, -1), whole ? 0 : -1);
            C.due("what it tells", x.office(0, 3), whole ? 17 : -1);
        }
        // Each of the twenty bytes in turn is the first one that is no blank.
        for (int at = 0; at < 20; at++) {
            int[] five = {BLANK, BLANK, BLANK, BLANK, BLANK};
            five[at / 4] ^= 1 << 24 - at % 4 * 8;
            DeskRings x = new DeskRings();
            C.due("feed", x.feed(five[0], five[1], five[2], five[3], five[4]), 20);
            C.due("a stray byte at " + at, x.text(0, -1), -1);
            C.due("its fault", x.fault(0), 1);
            C.due("its place", x.fault(1), at);
        }
    }

    private static void promise2AnyNumber() {
        int[] numbers = {LEAST, MOST, -1, 0, LEAST + 1, MOST - 1};
        for (int number : numbers) {
            DeskRings x = new DeskRings();
            C.due("feed of " + number, feedAll(x, number), 20);
            C.due("a text of " + number, x.text(1, -1), -1);
            C.due("its fault", x.fault(0), 1);
            C.due("its place", x.fault(1), 0);
            C.due("feed behind blanks", x.feed(BLANK, BLANK, BLANK, BLANK, number), 20);
            C.due("a text with " + number, x.text(1, -1), -1);
            C.due("its place", x.fault(1), 16);
        }
    }

    private static void promise3EndsOfTheTape() {
        for (int n = 0; n <= 21; n++) {
            DeskRings x = new DeskRings();
            feedAll(x, BLANK);
            C.due("end(" + n + ") of 20", x.end(n), n <= 20 ? n : -1);
            C.due("feed behind it", feedAll(x, BLANK), n <= 20 ? n + 20 : 40);
        }
        DeskRings x = tapeOf(600);
        for (int n : new int[] {600, 599, 300, 1, 0}) {
            C.due("end(" + n + ")", x.end(n), n);
            C.due("end(" + (n + 1) + ") behind it", x.end(n + 1), -1);
        }
        C.due("end(0) of an empty tape", x.end(0), 0);
        C.due("end(-1) of an empty tape", x.end(-1), -1);
    }

    private static void promise3RefusedEndLeavesTheTape() {
        for (int n : new int[] {-1, 7, LEAST, MOST, -6, 600, 601, LEAST + 6, MOST - 1}) {
            DeskRings x = new DeskRings();
            Checks.type(x, "ear 7;");
            C.due("end(" + n + ") of 6", x.end(n), -1);
            C.due("feed behind 6", feedAll(x, BLANK), 26);
            C.due("the text", x.text(0, -1), 0);
            C.due("what it tells", x.office(0, 2), 7);
        }
    }

    private static void promise4EmptyTape() {
        for (int sort = 0; sort < 3; sort++) {
            DeskRings x = new DeskRings();
            C.due("a text of nothing, sort " + sort, x.text(sort, -1), 0);
            C.due("no fault", x.fault(0), 0);
            C.due("no place", x.fault(1), -1);
            C.due("it is there", x.count(sort), 1);
            C.due("another text of nothing", x.text(sort, -1), 1);
            C.due("in the place of the first", x.text(sort, 0), 0);
            C.due("they are there", x.count(sort), 2);
        }
        DeskRings x = Checks.officeAndDay("", "");
        Checks.tell(x, 2, -1, "");
        C.due("no desks", x.office(0, 0), 0);
        C.due("no calls", x.office(0, 1), 0);
        C.due("no deeds", x.deed(0, -1, 0), 0);
        C.due("no facts", x.fact(0, -1, 0), 0);
    }

    /** "its number": a further one has the next, one in the place of another that one's. */
    private static void promise4TwoOfEachSort() {
        String[] texts = {"ear 1;", "away 1;", "silent 1;"};
        for (int sort = 0; sort < 3; sort++) {
            DeskRings x = new DeskRings();
            C.due("in the place of none", Checks.tell(x, sort, 0, texts[sort]), -2);
            C.due("the first", Checks.tell(x, sort, -1, texts[sort]), 0);
            C.due("in the place of the second", Checks.tell(x, sort, 1, texts[sort]), -2);
            C.due("in the place of the first", Checks.tell(x, sort, 0, texts[sort]), 0);
            C.due("one is there", x.count(sort), 1);
            C.due("the second", Checks.tell(x, sort, -1, texts[sort]), 1);
            C.due("a third", Checks.tell(x, sort, -1, texts[sort]), -2);
            C.due("in the place of a third", Checks.tell(x, sort, 2, texts[sort]), -2);
            C.due("in the place of the first", Checks.tell(x, sort, 0, texts[sort]), 0);
            C.due("in the place of the second", Checks.tell(x, sort, 1, texts[sort]), 1);
            C.due("two are there", x.count(sort), 2);
            for (int other = 0; other < 3; other++) {
                if (other != sort) {
                    C.due("none of " + other, x.count(other), 0);
                    C.due("the first of " + other, Checks.tell(x, other, -1, texts[other]), 0);
                }
            }
        }
    }

    /** Two offices (ears 1 and 2), two days, two logs (of that number), and a fault. */
    private static DeskRings allTold() {
        DeskRings x = new DeskRings();
        for (int n = 1; n <= 2; n++) {
            Checks.tell(x, 0, -1, "ear " + n + ";");
            Checks.tell(x, 1, -1, "away " + n + ";");
            Checks.tell(x, 2, -1, "silent " + n + ";");
        }
        Checks.tell(x, 1, 0, "oh");
        return x;
    }

    private static void allStillTold(String when, DeskRings x) {
        for (int n = 0; n < 2; n++) {
            C.due("office " + n + " " + when, x.office(n, 2), n + 1);
            C.due("day " + n + " " + when, x.deed(n, 0, 1), n + 1);
            C.due("deeds " + n + " " + when, x.deed(n, -1, 0), 1);
            C.due("log " + n + " " + when, x.fact(n, 0, 1), n + 1);
            C.due("facts " + n + " " + when, x.fact(n, -1, 0), 1);
        }
        for (int sort = 0; sort < 3; sort++) {
            C.due("count(" + sort + ") " + when, x.count(sort), 2);
        }
    }

    private static void promise4Refused() {
        int[][] refused = {{0, -1}, {1, -1}, {2, -1}, {0, 2}, {1, 2}, {2, 2}, {0, -2}, {1, -2}, {2, -2}, {0, LEAST},
            {0, MOST}, {1, LEAST}, {1, MOST}, {2, LEAST}, {2, MOST}, {-1, -1}, {-1, 0}, {3, -1}, {3, 0}, {3, 1}, {-2, 0},
            {LEAST, 0}, {LEAST, -1}, {MOST, 0}, {MOST, -1}, {LEAST, LEAST}, {MOST, MOST}};
        String[] tapes = {"", "ear 7;", "away 7;", "silent 7;", "oh", "ear 31;"};
        for (int[] call : refused) {
            for (String tape : tapes) {
                String when = "behind text(" + call[0] + ", " + call[1] + ") of '" + tape + "'";
                DeskRings x = allTold();
                Checks.type(x, tape);
                C.due("answer " + when, x.text(call[0], call[1]), -2);
                C.due("FAULT 0 " + when, x.fault(0), 0);
                C.due("no place " + when, x.fault(1), -1);
                allStillTold(when, x);
                C.due("the tape is empty " + when, feedAll(x, BLANK), 20);
            }
        }
    }

    private static void promise4FaultLeavesWhatWasTold() {
        String[] faulty = {"oh", "ear 9;ear 31;", "ear 9;ear", "plain 1 1 1 1;".repeat(9), "ear 9;call 0 0 1;",
            "away 9;", "away 7;away", "away 7;".repeat(41), "silent 8;", "silent 7;silent", "silent 7;".repeat(9)};
        int[] sorts = {0, 0, 0, 0, 0, 1, 1, 1, 2, 2, 2};
        int[] faults = {1, 2, 1, 3, 4, 2, 1, 3, 2, 1, 3};
        for (int i = 0; i < faulty.length; i++) {
            for (int at = 0; at < 2; at++) {
                String when = "behind '" + faulty[i] + "' at " + at;
                DeskRings x = allTold();
                C.due("answer " + when, Checks.tell(x, sorts[i], at, faulty[i]), -1);
                C.due("fault " + when, x.fault(0), faults[i]);
                allStillTold(when, x);
                C.due("the tape is empty " + when, feedAll(x, BLANK), 20);
            }
            DeskRings fresh = new DeskRings();
            C.due("a further one", Checks.tell(fresh, sorts[i], -1, faulty[i]), -1);
            C.due("it is not there", fresh.count(sorts[i]), 0);
            C.due("nor in its place", Checks.tell(fresh, sorts[i], 0, ""), -2);
        }
    }

    private static void promise5LatestText() {
        DeskRings x = new DeskRings();
        latest(x, 0, -1);
        Checks.tell(x, 0, -1, "ear 31;");
        latest(x, 2, 4);
        Checks.type(x, "ear 3;");
        latest(x, 2, 4);
        x.feed(0, 0, 0, 0, 0);
        x.end(6);
        x.office(0, 0);
        x.count(7);
        latest(x, 2, 4);
        C.due("without a fault", x.text(0, -1), 0);
        latest(x, 0, -1);
        Checks.tell(x, 2, -1, "silent");
        latest(x, 1, 6);
        Checks.tell(x, 1, -1, "away 1;".repeat(41));
        latest(x, 3, 280);
        Checks.tell(x, 0, 0, " call 3 3 3; ");
        latest(x, 4, 13);
        C.due("refused", x.text(0, 9), -2);
        latest(x, 0, -1);
    }

    private static void latest(DeskRings x, int fault, int place) {
        C.due("fault(0)", x.fault(0), fault);
        C.due("fault(1)", x.fault(1), place);
    }

    private static void promise5AnotherWhat() {
        DeskRings x = new DeskRings();
        for (int round = 0; round < 2; round++) {
            for (int what : new int[] {-1, 2, -2, 3, LEAST, MOST}) {
                C.due("fault(" + what + ")", x.fault(what), -1);
            }
            Checks.tell(x, 0, -1, "ear 31;");
        }
    }

    private static void promise38AnotherSort() {
        for (DeskRings x : new DeskRings[] {new DeskRings(), allTold()}) {
            for (int sort : new int[] {-1, 3, -2, 4, LEAST, MOST}) {
                C.due("count(" + sort + ")", x.count(sort), -2);
            }
        }
        DeskRings x = new DeskRings();
        String[] texts = {"ear 1;", "away 1;", "silent 1;"};
        int[] have = new int[3];
        for (int sort : new int[] {2, 0, 0, 1, 2, 1}) {
            Checks.tell(x, sort, -1, texts[sort]);
            have[sort]++;
            for (int k = 0; k < 3; k++) {
                C.due("count(" + k + ")", x.count(k), have[k]);
            }
        }
    }

    private static void promise39AnotherImage() {
        for (int k : new int[] {-1, 3, -2, 4, LEAST, MOST}) {
            DeskRings x = Checks.office("ear 5;");
            C.due("image(" + k + ")", x.image(k), false);
            C.due("again(" + k + ")", x.again(k), false);
            for (int other = 0; other < 3; other++) {
                C.due("no image " + other, x.again(other), false);
                C.due("image(" + other + ")", x.image(other), true);
            }
            Checks.tell(x, 0, 0, "ear 6;");
            C.due("image(" + k + ")", x.image(k), false);
            for (int other = 0; other < 3; other++) {
                C.due("it is as told", x.office(0, 2), 6);
                C.due("again(" + other + ")", x.again(other), true);
                C.due("as it was", x.office(0, 2), 5);
                Checks.tell(x, 0, 0, "ear 6;");
            }
        }
    }

    /** "all that is told (the tape, the FAULT, too), as it is now". */
    private static void promise39AllThatIsTold() {
        for (int k = 0; k < 3; k++) {
            DeskRings x = allTold();
            Checks.type(x, "ear 7;");
            C.due("image(" + k + ")", x.image(k), true);
            allStillTold("behind image()", x);
            C.due("the tape stays", x.text(0, 0), 0);
            C.due("what was on it", x.office(0, 2), 7);
            for (int n = 0; n < 2; n++) {
                Checks.tell(x, 0, n, "plain 1 1 1 1;ear 20;");
                Checks.tell(x, 1, n, "back 4;back 5;");
                Checks.tell(x, 2, n, "lifted 5 4 3;silent 4;");
            }
            C.due("again(" + k + ")", x.again(k), true);
            allStillTold("behind again()", x);
            C.due("desks", x.office(0, 0), 0);
            C.due("the fault", x.fault(0), 1);
            C.due("its place", x.fault(1), 0);
            C.due("the tape", x.text(0, 1), 1);
            C.due("what was on it", x.office(1, 2), 7);
        }
        DeskRings x = new DeskRings();
        C.due("an image of nothing", x.image(1), true);
        Checks.tell(x, 0, -1, "");
        Checks.tell(x, 1, -1, "");
        Checks.tell(x, 2, -1, "");
        Checks.tell(x, 2, -1, "oh");
        feedAll(x, BLANK);
        C.due("nothing again", x.again(1), true);
        for (int sort = 0; sort < 3; sort++) {
            C.due("count of nothing", x.count(sort), 0);
        }
        C.due("no office", x.office(0, 0), -1);
        C.due("no day", x.deed(0, -1, 0), -2);
        C.due("no log", x.fact(0, -1, 0), -2);
        latest(x, 0, -1);
        C.due("an empty tape", x.end(1), -1);
    }

    private static void promise40NoSuchImage() {
        for (int made = 0; made < 3; made++) {
            DeskRings x = allTold();
            x.image(made);
            Checks.tell(x, 0, 0, "ear 9;");
            Checks.type(x, "ear 7;");
            for (int k : new int[] {-1, 0, 1, 2, 3, LEAST, MOST}) {
                if (k != made) {
                    C.due("again(" + k + ") of image " + made, x.again(k), false);
                    C.due("nothing is as before", x.office(0, 2), 9);
                    latest(x, 0, -1);
                }
            }
            C.due("the tape stays", x.text(0, 0), 0);
            C.due("what was on it", x.office(0, 2), 7);
            C.due("again(" + made + ")", x.again(made), true);
            allStillTold("behind again()", x);
        }
    }

    private static void promise40OtherImagesStay() {
        DeskRings x = new DeskRings();
        for (int k = 0; k < 3; k++) {
            Checks.tell(x, 0, k == 0 ? -1 : 0, "ear " + (11 + k) + ";");
            x.image(k);
        }
        for (int k : new int[] {0, 2, 1, 1, 0, 2}) {
            C.due("again(" + k + ")", x.again(k), true);
            C.due("as image " + k + " has it", x.office(0, 2), 11 + k);
            Checks.tell(x, 0, 0, "ear 9;");
        }
        // An image is made anew, also from another one; what it had is gone.
        x.again(2);
        C.due("image(0) anew", x.image(0), true);
        x.again(1);
        C.due("image 1 stays", x.office(0, 2), 12);
        x.again(0);
        C.due("image 0 is anew", x.office(0, 2), 13);
    }

    private static void promise40TapesOfAnyLength() {
        for (int length : new int[] {0, 1, 19, 20, 21, 580, 581, 599, 600}) {
            for (int now : new int[] {0, 20, 600}) {
                DeskRings x = tapeOf(length);
                x.image(2);
                x.text(0, -1);
                for (int k = 0; k < now / 20; k++) {
                    feedAll(x, OTHER);
                }
                C.due("again(2)", x.again(2), true);
                C.due("no longer than " + length, x.end(length + 1), -1);
                C.due("feed behind it", feedAll(x, BLANK), length <= 580 ? length + 20 : -1);
                C.due("blanks alone", x.text(0, -1), 0);
            }
        }
    }
}
