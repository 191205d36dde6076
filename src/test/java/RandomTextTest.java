import java.util.ArrayList;
import java.util.List;
import java.util.Random;
import java.util.regex.Matcher;
import java.util.regex.Pattern;

/** Texts by chance (with a fixed seed), right and wrong: faults, places, what they tell, against regular expressions. */
public final class RandomTextTest {
    private static final Checks C = new Checks();
    private static final Random R = new Random(18112026);
    private static final Pattern TOKEN = Pattern.compile("([a-z]+)|([0-9]+)|(;)|([^\\n ])");
    /** The grammars over tokens, each with a blank behind it, a number being #. */
    private static final Pattern[] GRAMMARS = {
        Pattern.compile("(?:(?:(?:plain|soft|deaf|fair|near) # # # # |call # # # |(?:ear|machine|fade) # ); )*"),
        Pattern.compile("(?:(?:ring|away|back|read) # ; )*"),
        Pattern.compile("(?:(?:lifted # # # |silent # ); )*"),
    };
    /** Each word with the least and the most of each number behind it. */
    private static final Object[][] OFFICE = {
        {"plain", 0, 30, 1, 12, 0, 20, 0, 10}, {"soft", 0, 30, 1, 12, 0, 20, 0, 10}, {"deaf", 0, 30, 1, 12, 0, 20, 0, 10},
        {"fair", 0, 30, 1, 12, 0, 20, 0, 10}, {"near", 0, 30, 1, 12, 0, 20, 0, 10}, {"call", 0, 7, 0, 99, 1, 20},
        {"ear", 0, 30}, {"machine", 0, 20}, {"fade", 0, 9},
    };
    private static final Object[][] DAY = {{"ring", 0, 9}, {"away", 0, 7}, {"back", 0, 7}, {"read", 0, 7}};
    private static final Object[][] LOG = {{"lifted", 0, 7, 0, 7, 1, 12}, {"silent", 0, 7}};
    private static final Object[][][] LINES = {OFFICE, DAY, LOG};
    private static final int[] SEEN = new int[5];

    public static void main(String[] args) {
        for (int round = 0; round < 30000; round++) {
            int sort = R.nextInt(3);
            String text = R.nextInt(3) == 0 ? spoilt(lines(sort)) : lines(sort);
            if (text.length() <= 600) {
                compare(sort, text);
            }
        }
        for (int fault = 0; fault < 5; fault++) {
            C.due("texts with fault " + fault + " were tried", SEEN[fault] > 300, true);
        }
        C.finish();
    }

    private static String lines(int sort) {
        StringBuilder text = new StringBuilder();
        int[] often = {14, 44, 10};
        int many = R.nextInt(often[sort]);
        boolean wild = R.nextInt(3) == 0;
        // Some texts are of few words, so that there are as many of one sort as may be, or more.
        int words = 1 + R.nextInt(LINES[sort].length);
        int first = R.nextInt(LINES[sort].length - words + 1);
        for (int i = 0; i < many; i++) {
            Object[] line = LINES[sort][first + R.nextInt(words)];
            text.append(blanks(0)).append(line[0]).append(blanks(0));
            for (int n = 1; n < line.length; n += 2) {
                int least = (int) line[n];
                int most = (int) line[n + 1];
                int number = wild && R.nextInt(12) == 0 ? R.nextInt(100) : least + R.nextInt(most - least + 1);
                text.append(n == 1 ? "" : blanks(1)).append(number < 10 && R.nextInt(9) == 0 ? "0" : "").append(number);
            }
            text.append(blanks(0)).append(';');
        }
        return text.append(blanks(0)).toString();
    }

    private static String blanks(int least) {
        return switch (R.nextInt(12)) {
            case 0 -> "\n";
            case 1 -> " \n ";
            case 2, 3, 4 -> " ";
            default -> least == 0 ? "" : " ";
        };
    }

    /** One byte is struck, put in, or another one. */
    private static String spoilt(String text) {
        int at = R.nextInt(text.length() + 1);
        String bytes = "09; \nazA{`:/\t\0" + (char) 233 + (char) 187;
        char other = bytes.charAt(R.nextInt(bytes.length()));
        boolean strike = R.nextBoolean() && at < text.length();
        String put = R.nextInt(3) == 0 ? "" : String.valueOf(other);
        return text.substring(0, at) + put + text.substring(strike ? at + 1 : at);
    }

    private static void compare(int sort, String text) {
        List<String> tokens = new ArrayList<>();
        List<Integer> places = new ArrayList<>();
        for (Matcher m = TOKEN.matcher(text); m.find(); ) {
            tokens.add(m.group());
            places.add(m.start());
        }
        int[] fault = broken(sort, tokens, places, text.length());
        if (fault == null) {
            fault = wrong(sort, tokens, places, text.length());
        }
        SEEN[fault[0]]++;
        DeskRings x = new DeskRings();
        C.due("text '" + text + "'", Checks.tell(x, sort, DeskRings.NONE, text), fault[0] == 0 ? 0 : -1);
        C.due("fault of '" + text + "'", x.fault(0), fault[0]);
        C.due("place in '" + text + "'", x.fault(1), fault[1]);
        C.due("count behind '" + text + "'", x.count(sort), fault[0] == 0 ? 1 : 0);
        if (fault[0] == 0) {
            compareTold(x, sort, tokens);
        }
    }

    /** Fault 1: the first token behind which no text can stand any more; null if there is none. */
    private static int[] broken(int sort, List<String> tokens, List<Integer> places, int end) {
        StringBuilder read = new StringBuilder();
        for (int i = 0; i < tokens.size(); i++) {
            read.append(tokens.get(i).matches("[0-9]{1,2}") ? "#" : tokens.get(i)).append(' ');
            Matcher m = GRAMMARS[sort].matcher(read);
            if (tokens.get(i).equals("#") || !m.matches() && !m.hitEnd()) {
                return new int[] {1, places.get(i)};
            }
        }
        return GRAMMARS[sort].matcher(read).matches() ? null : new int[] {1, end};
    }

    private static Object[] ranges(int sort, String word) {
        for (Object[] line : LINES[sort]) {
            if (line[0].equals(word)) {
                return line;
            }
        }
        throw new IllegalStateException(word);
    }

    /** Faults 2 to 4, of a text whose grammar is right; {0, NONE} if there is none. */
    private static int[] wrong(int sort, List<String> tokens, List<Integer> places, int end) {
        int desks = 0;
        int others = 0;
        int farthest = -1;
        for (int i = 0; i < tokens.size(); ) {
            Object[] line = ranges(sort, tokens.get(i));
            boolean isDesk = line.length == 9;
            boolean isCounted = sort > 0 || line.length > 3;
            desks += isDesk ? 1 : 0;
            others += isCounted && !isDesk ? 1 : 0;
            if (desks > 8 || others > new int[] {10, 40, 8}[sort]) {
                return new int[] {3, places.get(i)};
            }
            for (int n = 1; n < line.length; n += 2) {
                int number = Integer.parseInt(tokens.get(i + 1 + n / 2));
                boolean own = sort == 2 && n == 3 && number == Integer.parseInt(tokens.get(i + 1));
                if (own || number < (int) line[n] || number > (int) line[n + 1]) {
                    return new int[] {2, places.get(i + 1 + n / 2)};
                }
            }
            if (line[0].equals("call")) {
                farthest = Math.max(farthest, Integer.parseInt(tokens.get(i + 1)));
            }
            i += line.length / 2 + 2;
        }
        return farthest >= desks ? new int[] {4, end} : new int[] {0, -1};
    }

    private static void compareTold(DeskRings x, int sort, List<String> tokens) {
        int desks = 0;
        int others = 0;
        int[] rest = {10, 0, 1};
        for (int i = 0; i < tokens.size(); ) {
            Object[] line = ranges(sort, tokens.get(i));
            int kind = List.of(LINES[sort]).indexOf(line);
            int[] numbers = new int[line.length / 2];
            for (int n = 0; n < numbers.length; n++) {
                numbers[n] = Integer.parseInt(tokens.get(i + 1 + n));
            }
            if (sort == 0 && kind > 5) {
                rest[kind - 6] = numbers[0];
            } else if (sort == 0 && kind < 5) {
                C.due("kind", x.office(0, 10 + desks), kind);
                compareRow(x, 20 + desks, numbers);
                desks++;
            } else {
                compareOther(x, sort, others, kind, numbers);
                others++;
            }
            i += numbers.length + 2;
        }
        if (sort == 0) {
            if (others < 10) {
                compareRow(x, 60 + others, new int[] {-1, -1, -1});
            }
            int[] head = {desks, others, rest[0], rest[1], rest[2]};
            for (int what = 0; what < 5; what++) {
                C.due("office(0, " + what + ")", x.office(0, what), head[what]);
            }
        } else {
            C.due("how many", sort == 1 ? x.deed(0, -1, 0) : x.fact(0, -1, 0), others);
        }
    }

    private static void compareRow(DeskRings x, int from, int[] numbers) {
        for (int n = 0; n < numbers.length; n++) {
            C.due("office(0, " + (from + 10 * n) + ")", x.office(0, from + 10 * n), numbers[n]);
        }
    }

    /** A call, a deed or a fact. */
    private static void compareOther(DeskRings x, int sort, int k, int kind, int[] numbers) {
        if (sort == 0) {
            compareRow(x, 60 + k, numbers);
        } else if (sort == 1) {
            C.due("deed", x.deed(0, k, 0), kind);
            C.due("its number", x.deed(0, k, 1), numbers[0]);
        } else {
            C.due("fact", x.fact(0, k, 0), 1 - kind);
            C.due("its desk", x.fact(0, k, 1), numbers[0]);
            C.due("who", x.fact(0, k, 2), kind == 0 ? numbers[1] : -1);
            C.due("ring", x.fact(0, k, 3), kind == 0 ? numbers[2] : -1);
        }
    }
}
