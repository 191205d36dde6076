import java.util.ArrayList;
import java.util.Arrays;
import java.util.List;

/** An office read back by office(), and the document's terms reckoned the slow and simple way. */
final class Oracle {
    static final int NONE = -1;
    final int desks;
    final int calls;
    int ear;
    final int machine;
    final int fade;
    final int[] kind;
    final int[] place;
    final int[] rings;
    final int[] cost;
    final int[] there;
    final int[] desk;
    final int[] worth;
    final int[] patience;

    Oracle(DeskRings x, int office) {
        desks = x.office(office, 0);
        calls = x.office(office, 1);
        ear = x.office(office, 2);
        machine = x.office(office, 3);
        fade = x.office(office, 4);
        kind = row(x, office, 10, desks);
        place = row(x, office, 20, desks);
        rings = row(x, office, 30, desks);
        cost = row(x, office, 40, desks);
        there = row(x, office, 50, desks);
        desk = row(x, office, 60, calls);
        worth = row(x, office, 70, calls);
        patience = row(x, office, 80, calls);
    }

    private static int[] row(DeskRings x, int office, int from, int many) {
        int[] row = new int[many];
        for (int i = 0; i < many; i++) {
            row[i] = x.office(office, from + i);
        }
        return row;
    }

    int far(int one, int d) {
        return Math.abs(place[one] - place[d]);
    }

    boolean hears(int one, int d) {
        return one != d && far(one, d) <= ear;
    }

    static boolean in(int set, int one) {
        return (set & 1 << one) != 0;
    }

    int all() {
        return (1 << desks) - 1;
    }

    /** Those who would lift at a ring: the ring by ones, 0 for none. */
    int[] wouldLift(int d, int present, int[] helped, int[] kinds) {
        int[] at = new int[desks];
        for (int one = 0; one < desks; one++) {
            if (!in(present, one)) {
                continue;
            }
            if (in(present, d)) {
                at[one] = one == d ? 1 : 0;
            } else if (hears(one, d)) {
                boolean nearer = false;
                for (int other = 0; other < desks; other++) {
                    nearer |= in(present, other) && hears(other, d) && far(other, d) < far(one, d);
                }
                at[one] = switch (kinds[one]) {
                    case 0 -> rings[one];
                    case 1 -> Math.max(rings[one] - helped[one], 1);
                    case 2 -> 0;
                    case 3 -> rings[one] + helped[one];
                    default -> nearer ? 0 : rings[one];
                };
            }
        }
        return at;
    }

    /** {who, ring, tied bits} by the rings of ones; {NONE, 0, 0} for nobody. */
    int[] first(int d, int[] at) {
        List<Integer> ones = new ArrayList<>();
        for (int one = 0; one < at.length; one++) {
            if (at[one] > 0) {
                ones.add(one);
            }
        }
        if (ones.isEmpty()) {
            return new int[] {NONE, 0, 0};
        }
        ones.sort((a, b) -> at[a] != at[b] ? at[a] - at[b] : far(a, d) != far(b, d) ? far(a, d) - far(b, d) : a - b);
        int who = ones.get(0);
        int tied = 0;
        for (int one : ones) {
            tied |= at[one] == at[who] ? 1 << one : 0;
        }
        return new int[] {who, at[who], tied};
    }

    int[] lifts(int d, int present) {
        return first(d, wouldLift(d, present, new int[8], kind));
    }

    boolean answered(int call, int ring) {
        return ring != 0 && ring <= patience[call] && (machine == 0 || ring <= machine);
    }

    int got(int of, int ring) {
        int left = of;
        for (int r = 1; r < ring; r++) {
            left -= fade;
        }
        return Math.max(left, 0);
    }

    /** A day that goes on. */
    static final class Run {
        final Oracle o;
        int present;
        int answeredSet;
        int gone;
        int took;
        int got;
        int paid;
        int clashes;
        int last = NONE;
        final int[] helped = new int[8];
        final int[] slips = new int[8];
        final int[] read = new int[8];

        Run(Oracle o) {
            this.o = o;
            present = o.all();
        }

        void settle(int call, int[] lift) {
            if (o.answered(call, lift[1])) {
                answeredSet |= 1 << call;
                got += o.got(o.worth[call], lift[1]);
                clashes += Integer.bitCount(lift[2]) > 1 ? 1 : 0;
                last = lift[0];
                if (lift[0] != o.desk[call]) {
                    helped[lift[0]]++;
                    paid += o.cost[lift[0]];
                    slips[o.desk[call]]++;
                }
            } else if (o.machine > 0 && o.machine <= o.patience[call]) {
                took++;
            } else {
                gone++;
            }
        }

        boolean act(int deed, int number) {
            if (deed == 0) {
                if (number >= o.calls || in(answeredSet, number)) {
                    return false;
                }
                int d = o.desk[number];
                settle(number, o.first(d, o.wouldLift(d, present, helped, o.kind)));
                return true;
            }
            if (number >= o.desks) {
                return false;
            }
            if (deed == 1 && in(present, number)) {
                present -= 1 << number;
                return true;
            }
            if (deed == 2 && !in(present, number)) {
                present += 1 << number;
                return true;
            }
            if (deed == 3 && in(present, number) && slips[number] > 0) {
                read[number] += slips[number];
                slips[number] = 0;
                return true;
            }
            return false;
        }

        int tell(int what) {
            int[] head = {present, answeredSet, gone, took, got, paid, clashes};
            if (what >= 0 && what < head.length) {
                return head[what];
            }
            int[][] rows = {helped, slips, read};
            if (what >= 10 && what < 40 && what % 10 < o.desks) {
                return rows[what / 10 - 1][what % 10];
            }
            return -2;
        }
    }

    static Run drawn(Oracle o, int seed, int n) {
        Run run = new Run(o);
        long x = seed & 0xffffffffL;
        for (int i = 0; i < n; i++) {
            x = (x * 1103515245L + 12345L) & 0xffffffffL;
            int pick = (int) ((x >> 16) % 8);
            int from = pick < 4 ? o.calls : o.desks;
            if (from == 0) {
                continue;
            }
            x = (x * 1103515245L + 12345L) & 0xffffffffL;
            int number = (int) ((x >> 16) % from);
            run.act(pick < 4 ? 0 : pick == 4 ? 1 : pick == 7 ? 3 : 2, number);
        }
        return run;
    }

    Run byRule(int rule, int[] order) {
        Run run = new Run(this);
        for (int call : order) {
            int d = desk[call];
            int[] at = new int[desks];
            if (rule == 0) {
                at = wouldLift(d, all() & ~(1 << d), run.helped, kind);
            }
            int nearest = NONE;
            for (int one = 0; one < desks; one++) {
                if (hears(one, d)) {
                    at[one] = rule == 1 && kind[one] != 2 ? 3 : at[one];
                    nearest = nearest == NONE || far(one, d) < far(nearest, d) ? one : nearest;
                }
            }
            if (rule == 2 && nearest != NONE) {
                at[nearest] = 2;
            }
            for (int i = 1; rule == 3 && i <= desks; i++) {
                int one = (run.last + i + desks) % desks;
                if (hears(one, d)) {
                    at[one] = 1;
                    break;
                }
            }
            run.settle(call, first(d, at));
        }
        return run;
    }

    int[] allCalls() {
        int[] row = new int[calls];
        for (int i = 0; i < calls; i++) {
            row[i] = i;
        }
        return row;
    }

    static List<int[]> orders(int n) {
        List<int[]> rows = new ArrayList<>();
        lay(new int[n], 0, rows);
        return rows;
    }

    private static void lay(int[] row, int at, List<int[]> rows) {
        if (at == row.length) {
            rows.add(row.clone());
            return;
        }
        for (int i = 0; i < row.length; i++) {
            boolean used = false;
            for (int j = 0; j < at; j++) {
                used |= row[j] == i;
            }
            if (!used) {
                row[at] = i;
                lay(row, at + 1, rows);
            }
        }
    }

    double chance(int set) {
        double p = 1;
        for (int one = 0; one < desks; one++) {
            p *= in(set, one) ? there[one] / 10.0 : (10 - there[one]) / 10.0;
        }
        return p;
    }

    /** What each who plays wins, by what they say. */
    int[] wins(int d, int of, int[] players, int[] said) {
        int lifter = NONE;
        for (int i = 0; i < players.length; i++) {
            if (said[i] == 0) {
                continue;
            }
            boolean before = lifter == NONE || said[i] < said[lifter]
                    || said[i] == said[lifter] && far(players[i], d) < far(players[lifter], d);
            lifter = before ? i : lifter;
        }
        int[] wins = new int[players.length];
        if (lifter != NONE) {
            Arrays.fill(wins, got(of, said[lifter]));
            wins[lifter] -= cost[players[lifter]];
        }
        return wins;
    }

    int[] players(int d, int most) {
        List<Integer> ones = new ArrayList<>();
        for (int one = 0; one < desks && ones.size() < most; one++) {
            if (hears(one, d) && kind[one] != 2) {
                ones.add(one);
            }
        }
        return ones.stream().mapToInt(Integer::intValue).toArray();
    }

    List<Integer> rests(int d, int of, int most) {
        int[] players = players(d, most);
        List<Integer> rows = new ArrayList<>();
        for (int row = 0; row < 1 << 2 * players.length; row++) {
            int[] said = said(row, players.length);
            int[] now = wins(d, of, players, said);
            boolean rest = true;
            for (int i = 0; i < players.length; i++) {
                for (int other = 0; other < 4; other++) {
                    int[] changed = said.clone();
                    changed[i] = other;
                    rest &= wins(d, of, players, changed)[i] <= now[i];
                }
            }
            if (rest) {
                rows.add(row);
            }
        }
        return rows;
    }

    static int[] said(int row, int many) {
        int[] said = new int[many];
        int left = row;
        for (int i = many - 1; i >= 0; i--) {
            said[i] = left % 4;
            left /= 4;
        }
        return said;
    }

    int quick(int d, int of, int most) {
        int many = players(d, most).length;
        int quick = NONE;
        for (int row : rests(d, of, most)) {
            for (int ring : said(row, many)) {
                quick = ring > 0 && (quick == NONE || ring < quick) ? ring : quick;
            }
        }
        return quick;
    }

    int[] lifted(int d, int deafSet) {
        int[] kinds = new int[desks];
        for (int one = 0; one < desks; one++) {
            kinds[one] = in(deafSet, one) ? 2 : 0;
        }
        return first(d, wouldLift(d, all() & ~(1 << d), new int[8], kinds));
    }

    /** Facts: {desk, who, ring}; NONE, NONE of silent. Null if one told of is not there. */
    List<Integer> fits(int[][] facts) {
        List<Integer> sets = new ArrayList<>();
        for (int[] fact : facts) {
            if (fact[0] >= desks || fact[1] >= desks) {
                return null;
            }
        }
        for (int set = 0; set <= all(); set++) {
            boolean fit = true;
            for (int[] fact : facts) {
                int[] lift = lifted(fact[0], set);
                fit &= lift[0] == fact[1] && (lift[0] == NONE || lift[1] == fact[2]);
            }
            if (fit) {
                sets.add(set);
            }
        }
        return sets;
    }

    int toTry(List<Integer> sets) {
        int best = NONE;
        int least = Integer.MAX_VALUE;
        for (int d = 0; d < desks; d++) {
            int[] tally = new int[9];
            for (int set : sets) {
                tally[lifted(d, set)[0] + 1]++;
            }
            int most = Arrays.stream(tally).max().getAsInt();
            if (most < least) {
                least = most;
                best = d;
            }
        }
        return best;
    }

    /** The best row of gifts from a call on: {worth, row ..}, by trying all. */
    int[] gifts(int call, int busy) {
        if (call == calls) {
            return new int[1];
        }
        int[] best = null;
        for (int one = 0; one <= 8; one++) {
            boolean may = one == 8 || one < desks && !in(busy, one) && (one == desk[call] || hears(one, desk[call]));
            if (!may) {
                continue;
            }
            int[] rest = gifts(call + 1, one == 8 ? busy : busy | 1 << one);
            int sum = rest[0] + (one == 8 ? 0 : worth[call]);
            if (best == null || sum > best[0]) {
                best = new int[rest.length + 1];
                best[0] = sum;
                best[1] = one;
                System.arraycopy(rest, 1, best, 2, rest.length - 1);
            }
        }
        return best;
    }

    /** The best duty by trying all rows: {cost, row ..}; null without ones. */
    int[] duty(int n, int before) {
        if (n == 0) {
            return new int[1];
        }
        int[] best = null;
        for (int one = 0; one < desks; one++) {
            if (one == before && desks > 1) {
                continue;
            }
            int[] rest = duty(n - 1, one);
            if (best == null || rest[0] + cost[one] < best[0]) {
                best = new int[n + 1];
                best[0] = rest[0] + cost[one];
                best[1] = one;
                System.arraycopy(rest, 1, best, 2, n - 1);
            }
        }
        return best;
    }

    /** Fewest passes between all desks, by Floyd and Warshall; 99: never. */
    int[][] passes() {
        int[][] way = new int[desks][desks];
        for (int a = 0; a < desks; a++) {
            for (int b = 0; b < desks; b++) {
                way[a][b] = a == b ? 0 : hears(b, a) ? 1 : 99;
            }
        }
        for (int k = 0; k < desks; k++) {
            for (int a = 0; a < desks; a++) {
                for (int b = 0; b < desks; b++) {
                    way[a][b] = Math.min(way[a][b], way[a][k] + way[k][b]);
                }
            }
        }
        for (int[] row : way) {
            for (int b = 0; b < desks; b++) {
                row[b] = Math.min(row[b], 99);
            }
        }
        return way;
    }
}
