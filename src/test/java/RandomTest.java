import java.util.Arrays;
import java.util.List;
import java.util.Random;

/** Offices, days, logs by chance (with a fixed seed), each answer compared with the oracle's. */
public final class RandomTest {
    private static final Checks C = new Checks();
    private static final Random R = new Random(20261118);
    private static final String[] KINDS = {"plain ", "soft ", "deaf ", "fair ", "near "};
    private static final String[] DEEDS = {"ring ", "away ", "back ", "read "};

    public static void main(String[] args) {
        // One object all along, so that nothing may be left over from an office before.
        DeskRings x = Checks.office("");
        for (int round = 0; round < 400; round++) {
            int most = round % 10 == 0 ? 8 : 6;
            C.due("the office's text", Checks.tell(x, 0, 0, office(R.nextInt(most + 1), R.nextInt(11))), 0);
            Oracle o = new Oracle(x, 0);
            day(x, o);
            lifts(x, o);
            chances(x, o);
            if (o.desks <= 6 || round % 40 == 0) {
                waiting(x, o);
            }
            log(x, o);
            lunch(x, o);
            rules(x, o);
            places(x, o);
            plans(x, o);
        }
        C.finish();
    }

    private static String office(int desks, int calls) {
        StringBuilder text = new StringBuilder();
        int spread = R.nextBoolean() ? 31 : 1 + R.nextInt(12);
        if (R.nextInt(4) > 0) {
            text.append("ear ").append(R.nextInt(R.nextBoolean() ? 31 : 8)).append(';');
        }
        if (R.nextBoolean()) {
            text.append("machine ").append(R.nextInt(10)).append(';');
        }
        if (R.nextBoolean()) {
            text.append("fade ").append(R.nextInt(10)).append(';');
        }
        int rings = 1 + R.nextInt(12);
        int cost = 1 + R.nextInt(21);
        for (int i = 0; i < desks; i++) {
            int there = R.nextInt(5) == 0 ? 10 : R.nextInt(11);
            text.append(KINDS[R.nextInt(5)]).append(R.nextInt(spread)).append(' ').append(1 + R.nextInt(rings)).append(' ')
                    .append(R.nextInt(cost)).append(' ').append(there).append(';');
        }
        int worth = 1 + R.nextInt(100);
        for (int i = 0; desks > 0 && i < calls; i++) {
            text.append("call ").append(R.nextInt(desks)).append(' ').append(R.nextInt(worth)).append(' ')
                    .append(1 + R.nextInt(20)).append(';');
        }
        return text.toString();
    }

    private static void day(DeskRings x, Oracle o) {
        int[] deeds = new int[R.nextInt(41)];
        int[] numbers = new int[deeds.length];
        StringBuilder text = new StringBuilder();
        // Mostly deeds that can be, so that days go on.
        Oracle.Run plan = new Oracle.Run(o);
        for (int k = 0; k < deeds.length; k++) {
            for (int tries = 0; tries < 30; tries++) {
                deeds[k] = R.nextInt(4);
                numbers[k] = deeds[k] == 0 ? R.nextInt(10) : R.nextInt(8);
                if (plan.act(deeds[k], numbers[k])) {
                    break;
                }
            }
            text.append(DEEDS[deeds[k]]).append(numbers[k]).append(';');
        }
        C.due("the day's text", Checks.tell(x, 1, x.count(1) == 0 ? -1 : 0, text.toString()), 0);
        Oracle.Run run = new Oracle.Run(o);
        int[] got = new int[deeds.length + 1];
        int stop = 0;
        states(x, run, 0);
        while (stop < deeds.length && run.act(deeds[stop], numbers[stop])) {
            stop++;
            got[stop] = run.got;
            states(x, run, stop);
        }
        C.due("stop", x.stop(0, 0), stop);
        C.due("beyond stop", x.state(0, 0, stop + 1, 0), -2);
        int helper = -1;
        int unread = 0;
        for (int d = 0; d < o.desks; d++) {
            helper = run.helped[d] > (helper == -1 ? 0 : run.helped[helper]) ? d : helper;
            unread |= run.slips[d] > 0 ? 1 << d : 0;
        }
        int half = 0;
        while (got[half] * 2 < run.got) {
            half++;
        }
        C.due("helper", x.after(0, 0, 0), helper);
        C.due("half", x.after(0, 0, 1), half);
        C.due("unread", x.after(0, 0, 2), unread);
        int seed = R.nextInt();
        int n = R.nextInt(61);
        Oracle.Run drawn = Oracle.drawn(o, seed, n);
        for (int what = 0; what < 41; what++) {
            C.due("drawn " + what, x.drawn(0, seed, n, what), drawn.tell(what));
        }
    }

    private static void states(DeskRings x, Oracle.Run run, int n) {
        for (int what = 0; what < 41; what++) {
            C.due("state " + what, x.state(0, 0, n, what), run.tell(what));
        }
    }

    private static void lifts(DeskRings x, Oracle o) {
        int enough = -1;
        for (int set = 0; set <= o.all(); set++) {
            boolean all = true;
            for (int d = 0; d < o.desks; d++) {
                int[] lift = o.lifts(d, set);
                all &= lift[0] != -1;
                if (set % 3 == 0) {
                    C.due("who", x.who(0, d, set, false), lift[0]);
                    C.due("at which ring", x.who(0, d, set, true), lift[0] == -1 ? -1 : lift[1]);
                }
            }
            boolean fewer = enough == -1 || Integer.bitCount(set) < Integer.bitCount(enough);
            enough = all && fewer ? set : enough;
        }
        C.due("enough", x.enough(0), enough);
        for (int d = 0; d < o.desks; d++) {
            C.due("tied", x.tied(0, d), o.lifts(d, o.all() & ~(1 << d))[2]);
        }
    }

    private static long gcd(long a, long b) {
        return b == 0 ? a : gcd(b, a % b);
    }

    private static void near(String call, long over, long under, double want) {
        C.due(call + " in least terms", under > 0 && over >= 0 ? gcd(over, under) : -1, 1);
        C.due(call + " " + over + " / " + under + " for " + want, Math.abs((double) over / under - want) < 1e-10, true);
    }

    private static void chances(DeskRings x, Oracle o) {
        for (int call = 0; call < o.calls; call++) {
            double odds = 0;
            double mean = 0;
            for (int set = 0; set <= o.all(); set++) {
                int ring = o.lifts(o.desk[call], set)[1];
                odds += o.answered(call, ring) ? o.chance(set) : 0;
                mean += o.answered(call, ring) ? o.chance(set) * o.got(o.worth[call], ring) : 0;
            }
            near("odds", x.odds(0, call, false), x.odds(0, call, true), odds);
            near("mean", x.mean(0, call, false), x.mean(0, call, true), mean);
        }
        double[] heads = new double[o.desks + 1];
        for (int set = 0; set <= o.all(); set++) {
            heads[Integer.bitCount(set)] += o.chance(set);
        }
        for (int k = 0; k <= o.desks; k++) {
            near("empty", x.empty(0, k, false), x.empty(0, k, true), heads[k]);
        }
        if (o.desks <= 6) {
            button(x, o);
        }
    }

    private static void button(DeskRings x, Oracle o) {
        int[] best = null;
        long least = Long.MAX_VALUE;
        for (int[] row : Oracle.orders(o.desks)) {
            long sum = 0;
            for (int tried = 1; tried <= row.length; tried++) {
                long chance = 1;
                for (int k = 0; k < row.length; k++) {
                    chance *= k < tried - 1 ? 10 - o.there[row[k]] : 10;
                }
                sum += chance;
            }
            if (sum < least) {
                least = sum;
                best = row;
            }
        }
        near("button", x.button(0, -1), x.button(0, -2), least / Math.pow(10, o.desks));
        for (int k = 0; k < o.desks; k++) {
            C.due("button " + k, x.button(0, k), best[k]);
        }
    }

    private static void waiting(DeskRings x, Oracle o) {
        if (o.desks == 0) {
            return;
        }
        int d = R.nextInt(o.desks);
        int worth = R.nextInt(R.nextBoolean() ? 100 : 20);
        List<Integer> rests = o.rests(d, worth, 8);
        C.due("rests", x.rest(0, d, worth, -1), rests.size());
        for (int i = 0; i < 6; i++) {
            int k = R.nextInt(rests.size() + 1);
            C.due("rest " + k, x.rest(0, d, worth, k), k < rests.size() ? rests.get(k) : -1);
        }
        C.due("quick", x.rest(0, d, worth, -2), o.quick(d, worth, 8));
        int few = R.nextInt(9);
        C.due("fewer", x.fewer(0, d, worth, few), o.quick(d, worth, few));
    }

    private static void log(DeskRings x, Oracle o) {
        int[][] facts = new int[R.nextInt(5)][];
        StringBuilder text = new StringBuilder();
        int truth = R.nextInt(o.all() + 1);
        for (int k = 0; k < facts.length; k++) {
            facts[k] = o.desks == 0 || R.nextInt(12) == 0 ? anyFact() : trueFact(o, truth);
            int[] f = facts[k];
            text.append(f[1] == -1 ? "silent " + f[0] : "lifted " + f[0] + " " + f[1] + " " + f[2]).append(';');
        }
        C.due("the log's text", Checks.tell(x, 2, x.count(2) == 0 ? -1 : 0, text.toString()), 0);
        List<Integer> sets = o.fits(facts);
        if (sets == null) {
            C.due("not there", x.fits(0, 0, 0), -2);
            C.due("not there", x.blame(0, 0, true), -2);
            return;
        }
        int sure = o.all();
        int clear = o.all();
        int fewest = -1;
        for (int set : sets) {
            sure &= set;
            clear &= ~set;
            fewest = fewest == -1 || Integer.bitCount(set) < Integer.bitCount(fewest) ? set : fewest;
        }
        C.due("fits", x.fits(0, 0, 0), sets.size());
        C.due("sure", x.fits(0, 0, 1), sets.isEmpty() ? -1 : sure);
        C.due("clear", x.fits(0, 0, 2), sets.isEmpty() ? -1 : clear);
        C.due("try", x.fits(0, 0, 3), sets.isEmpty() ? -1 : o.toTry(sets));
        for (int k = 0; k <= sets.size(); k++) {
            C.due("fit " + k, x.fits(0, 0, 10 + k), k < sets.size() ? sets.get(k) : -2);
        }
        C.due("blame", x.blame(0, 0, false), sets.isEmpty() ? -1 : Integer.bitCount(fewest));
        C.due("blame", x.blame(0, 0, true), fewest);
    }

    private static int[] anyFact() {
        int d = R.nextInt(8);
        int who = (d + 1 + R.nextInt(7)) % 8;
        return R.nextBoolean() ? new int[] {d, -1, -1} : new int[] {d, who, 1 + R.nextInt(12)};
    }

    private static int[] trueFact(Oracle o, int deaf) {
        int d = R.nextInt(o.desks);
        int[] lift = o.lifted(d, deaf);
        return lift[0] == -1 ? new int[] {d, -1, -1} : new int[] {d, lift[0], lift[1]};
    }

    private static void lunch(DeskRings x, Oracle o) {
        int[] most = new int[o.desks + 1];
        int[] away = new int[o.desks + 1];
        Arrays.fill(most, -1);
        for (int set = 0; set <= o.all(); set++) {
            int sum = 0;
            for (int call = 0; call < o.calls; call++) {
                int ring = o.lifts(o.desk[call], o.all() - set)[1];
                sum += o.answered(call, ring) ? o.got(o.worth[call], ring) : 0;
            }
            int n = Integer.bitCount(set);
            if (sum > most[n]) {
                most[n] = sum;
                away[n] = set;
            }
        }
        for (int n = 0; n <= o.desks; n++) {
            C.due("lunch", x.lunch(0, n, false), most[n]);
            C.due("who is at lunch", x.lunch(0, n, true), away[n]);
        }
        C.due("lunch of more", x.lunch(0, o.desks + 1, false), -1);
    }

    private static void rules(DeskRings x, Oracle o) {
        int best = 0;
        int gain = Integer.MIN_VALUE;
        for (int rule = 0; rule < 4; rule++) {
            Oracle.Run run = o.byRule(rule, o.allCalls());
            C.due("got by rule " + rule, x.rule(0, rule, 0), run.got);
            C.due("paid by rule " + rule, x.rule(0, rule, 1), run.paid);
            C.due("helped by rule " + rule, x.rule(0, rule, 2), Arrays.stream(run.helped).max().getAsInt());
            C.due("missed by rule " + rule, x.rule(0, rule, 3), o.calls - Integer.bitCount(run.answeredSet));
            if (run.got - run.paid > gain) {
                gain = run.got - run.paid;
                best = rule;
            }
        }
        C.due("best", x.best(0), best);
        int ring = 1 + R.nextInt(12);
        int sum = 0;
        for (int call = 0; call < o.calls; call++) {
            sum += o.got(o.worth[call], ring);
        }
        C.due("curve", x.curve(0, ring), sum);
        int n = R.nextInt(6);
        int[] order = null;
        int most = -1;
        for (int[] row : n <= o.calls ? Oracle.orders(n) : List.<int[]>of()) {
            int got = o.byRule(0, row).got;
            if (got > most) {
                most = got;
                order = row;
            }
        }
        C.due("order", x.order(0, n, -1), most);
        for (int k = 0; k < n; k++) {
            C.due("order " + k, x.order(0, n, k), order == null ? -1 : order[k]);
        }
    }

    private static void places(DeskRings x, Oracle o) {
        int board = -1;
        int way = Integer.MAX_VALUE;
        for (int p = 0; p <= 30; p++) {
            int sum = 0;
            for (int d : o.desk) {
                sum += Math.abs(o.place[d] - p);
            }
            if (sum < way) {
                way = sum;
                board = p;
            }
        }
        C.due("board", x.board(0, false), board);
        C.due("board, together", x.board(0, true), way);
        int[][] passes = o.passes();
        boolean[] seen = new boolean[o.desks];
        int rooms = 0;
        int largest = 0;
        int loud = -1;
        int loudness = -1;
        for (int d = 0; d < o.desks; d++) {
            int size = 0;
            int hear = 0;
            rooms += seen[d] ? 0 : 1;
            for (int other = 0; other < o.desks; other++) {
                C.due("passed", x.passed(0, d, other), passes[d][other] == 99 ? -1 : passes[d][other]);
                seen[other] |= passes[d][other] != 99;
                size += passes[d][other] != 99 ? 1 : 0;
                hear += o.hears(other, d) ? 1 : 0;
            }
            largest = Math.max(largest, size);
            if (hear > loudness) {
                loudness = hear;
                loud = d;
            }
            seatAndQuiet(x, o, d);
        }
        C.due("rooms", x.rooms(0, false), rooms);
        C.due("largest room", x.rooms(0, true), largest);
        C.due("loud", x.loud(0, false), loud);
        C.due("how loud", x.loud(0, true), loudness);
        C.due("ears", x.ears(0), ears(o));
    }

    private static void seatAndQuiet(DeskRings x, Oracle o, int d) {
        int seat = -1;
        int fewest = 9;
        for (int p = 0; p <= 30; p++) {
            int hear = 0;
            for (int one = 0; one < o.desks; one++) {
                hear += one != d && Math.abs(o.place[one] - p) <= o.ear ? 1 : 0;
            }
            if (hear < fewest) {
                fewest = hear;
                seat = p;
            }
        }
        C.due("seat", x.seat(0, d, false), seat);
        C.due("seat, how many", x.seat(0, d, true), fewest);
        int rings = 0;
        for (int call = 0; call < o.calls; call++) {
            for (int ring = 1; ring <= o.patience[call] && (o.machine == 0 || ring <= o.machine); ring++) {
                rings += o.hears(d, o.desk[call]) ? 1 : 0;
            }
        }
        C.due("quiet", x.quiet(0, d), rings);
    }

    private static int ears(Oracle o) {
        int kept = o.ear;
        int least = -1;
        for (o.ear = 0; o.ear <= 30 && least == -1; o.ear++) {
            boolean all = true;
            for (int d = 0; d < o.desks; d++) {
                boolean heard = false;
                for (int one = 0; one < o.desks; one++) {
                    heard |= o.hears(one, d);
                }
                all &= heard;
            }
            least = all ? o.ear : -1;
        }
        o.ear = kept;
        return least;
    }

    private static void plans(DeskRings x, Oracle o) {
        if (o.calls <= 6 && o.desks <= 6) {
            int[] gifts = o.gifts(0, 0);
            C.due("given", x.given(0, -1), gifts[0]);
            for (int call = 0; call < o.calls; call++) {
                C.due("given " + call, x.given(0, call), gifts[call + 1]);
            }
        }
        int n = R.nextInt(o.desks > 6 ? 6 : 8);
        int[] duty = o.duty(n, -1);
        C.due("duty", x.duty(0, n, -1), duty == null ? -1 : duty[0]);
        for (int k = 0; k < n; k++) {
            C.due("duty " + k, x.duty(0, n, k), duty == null ? -1 : duty[k + 1]);
        }
    }
}
