/** Telephones that ring on empty desks: offices, days and logs told as texts, and what follows from them. */
public final class DeskRings {
    public static final int NONE = -1;

    private static final int NO_SUCH = -2;
    private static final int MOST_DESKS = 8;
    private static final int MOST_CALLS = 10;
    private static final int MOST_DEEDS = 40;
    private static final int MOST_FACTS = 8;
    private static final int MOST_BYTES = 600;
    private static final int MOST_TOLD = 2;
    private static final int IMAGES = 3;
    private static final int LAST_PLACE = 30;
    private static final int MOST_WORTH = 99;
    private static final int MOST_DRAWS = 60;
    private static final int MOST_DAYS_ON_DUTY = 20;
    private static final int MOST_ORDERED = 5;
    private static final int RULES = 4;

    private static final int OFFICES = 0;
    private static final int DAYS = 1;
    private static final int LOGS = 2;
    private static final int SORTS = 3;

    private static final int PLAIN = 0;
    private static final int SOFT = 1;
    private static final int DEAF = 2;
    private static final int FAIR = 3;
    private static final int NEAR = 4;

    private static final int RING = 0;
    private static final int AWAY = 1;
    private static final int BACK = 2;
    private static final int READ = 3;

    private static final int[] NO_HELP = {0, 0, 0, 0, 0, 0, 0, 0};

    private final Told told = new Told();
    private final Told[] images = new Told[IMAGES];
    private final boolean[] imageMade = new boolean[IMAGES];
    private final Reader reader = new Reader();
    private final Lift lift = new Lift();
    private final Floor floor = new Floor();
    private final Chances chances = new Chances();
    private final Waiting waiting = new Waiting();
    private final Suspects suspects = new Suspects();
    private final Plans plans = new Plans();

    public DeskRings() {
        for (int k = 0; k < IMAGES; k++) {
            images[k] = new Told();
        }
    }

    public int feed(int a, int b, int c, int d, int e) {
        if (told.length + 20 > MOST_BYTES) {
            return NONE;
        }
        told.putNumber(a);
        told.putNumber(b);
        told.putNumber(c);
        told.putNumber(d);
        told.putNumber(e);
        return told.length;
    }

    public int end(int n) {
        if (n < 0 || n > told.length) {
            return NONE;
        }
        told.length = n;
        return n;
    }

    public int text(int sort, int at) {
        // The tape is taken even where no text is read from it.
        int length = told.length;
        told.length = 0;
        told.fault = 0;
        told.faultPlace = NONE;
        int slot = told.slotFor(sort, at);
        if (slot == NONE) {
            return NO_SUCH;
        }
        reader.readText(sort, told.tape, length);
        told.fault = reader.fault;
        told.faultPlace = reader.faultPlace;
        if (reader.fault != 0) {
            return NONE;
        }
        told.keep(sort, slot, reader);
        return slot;
    }

    public int fault(int what) {
        if (what == 0) {
            return told.fault;
        }
        return what == 1 ? told.faultPlace : NONE;
    }

    public int office(int office, int what) {
        Office o = told.officeAt(office);
        return o == null ? NONE : o.tell(what);
    }

    public int deed(int day, int k, int what) {
        Day d = told.dayAt(day);
        if (d == null) {
            return NO_SUCH;
        }
        if (k == NONE && what == 0) {
            return d.count;
        }
        return d.tell(k, what);
    }

    public int stop(int office, int day) {
        Office o = told.officeAt(office);
        Day d = told.dayAt(day);
        if (o == null || d == null) {
            return NONE;
        }
        return floor.playDay(o, d, MOST_DEEDS);
    }

    public int state(int office, int day, int n, int what) {
        Office o = told.officeAt(office);
        Day d = told.dayAt(day);
        if (o == null || d == null || n < 0) {
            return NO_SUCH;
        }
        if (floor.playDay(o, d, n) < n) {
            return NO_SUCH;
        }
        return floor.tell(what);
    }

    public int who(int office, int desk, int there, boolean ring) {
        Office o = told.officeAt(office);
        if (o == null || !o.hasDesk(desk) || there < 0 || there > o.everybody()) {
            return NONE;
        }
        lift.asTold(o, desk, there, NO_HELP);
        if (lift.who == NONE) {
            return NONE;
        }
        return ring ? lift.ring : lift.who;
    }

    public int enough(int office) {
        Office o = told.officeAt(office);
        return o == null ? NONE : plans.fewestThere(o);
    }

    public long odds(int office, int call, boolean under) {
        Office o = told.officeAt(office);
        if (o == null || !o.hasCall(call)) {
            return NONE;
        }
        chances.reckonCall(o, call, false);
        return under ? chances.under : chances.over;
    }

    public long mean(int office, int call, boolean under) {
        Office o = told.officeAt(office);
        if (o == null || !o.hasCall(call)) {
            return NONE;
        }
        chances.reckonCall(o, call, true);
        return under ? chances.under : chances.over;
    }

    public int rest(int office, int desk, int worth, int k) {
        Office o = told.officeAt(office);
        if (o == null || !o.hasDesk(desk) || worth < 0 || worth > MOST_WORTH) {
            return NONE;
        }
        waiting.begin(o, desk, worth, MOST_DESKS);
        if (k == NONE) {
            return waiting.howMany();
        }
        return k == NO_SUCH ? waiting.quickest() : waiting.restAt(k);
    }

    public long button(int office, int k) {
        Office o = told.officeAt(office);
        if (o == null) {
            return NONE;
        }
        chances.reckonButton(o);
        if (k == NONE) {
            return chances.over;
        }
        if (k == NO_SUCH) {
            return chances.under;
        }
        return o.hasDesk(k) ? chances.row[k] : NONE;
    }

    public int fact(int log, int k, int what) {
        Log l = told.logAt(log);
        if (l == null) {
            return NO_SUCH;
        }
        if (k == NONE && what == 0) {
            return l.count;
        }
        return l.tell(k, what);
    }

    public int fits(int office, int log, int what) {
        Office o = told.officeAt(office);
        Log l = told.logAt(log);
        if (o == null || l == null || !l.tellsOnlyOf(o)) {
            return NO_SUCH;
        }
        suspects.find(o, l);
        return suspects.tell(what);
    }

    public int drawn(int office, int seed, int n, int what) {
        Office o = told.officeAt(office);
        if (o == null || n < 0 || n > MOST_DRAWS) {
            return NO_SUCH;
        }
        floor.playDrawn(o, seed, n);
        return floor.tell(what);
    }

    public int lunch(int office, int n, boolean who) {
        Office o = told.officeAt(office);
        if (o == null || n < 0 || n > o.desks) {
            return NONE;
        }
        plans.planLunch(o, n);
        return who ? plans.awaySet : plans.most;
    }

    public int rule(int office, int rule, int what) {
        Office o = told.officeAt(office);
        if (o == null || rule < 0 || rule >= RULES) {
            return NONE;
        }
        floor.playRule(o, rule);
        switch (what) {
            case 0:
                return floor.got;
            case 1:
                return floor.paid;
            case 2:
                return floor.mostHelped();
            case 3:
                return o.calls - Integer.bitCount(floor.answered);
            default:
                return NONE;
        }
    }

    public int board(int office, boolean together) {
        Office o = told.officeAt(office);
        if (o == null) {
            return NONE;
        }
        int place = o.boardPlace();
        return together ? o.wayToCalls(place) : place;
    }

    public int rooms(int office, boolean largest) {
        Office o = told.officeAt(office);
        if (o == null) {
            return NONE;
        }
        return largest ? o.largestRoom() : o.roomCount();
    }

    public int seat(int office, int desk, boolean many) {
        Office o = told.officeAt(office);
        if (o == null || !o.hasDesk(desk)) {
            return NONE;
        }
        int place = o.quietestPlace(desk);
        return many ? o.hearersAt(desk, place) : place;
    }

    public int quiet(int office, int one) {
        Office o = told.officeAt(office);
        return o == null || !o.hasDesk(one) ? NONE : o.ringsHeard(one);
    }

    public int given(int office, int k) {
        Office o = told.officeAt(office);
        if (o == null || (k != NONE && !o.hasCall(k))) {
            return NONE;
        }
        plans.giveCalls(o);
        return k == NONE ? plans.most : plans.row[k];
    }

    public int curve(int office, int ring) {
        Office o = told.officeAt(office);
        if (o == null || ring < 1 || ring > 12) {
            return NONE;
        }
        int sum = 0;
        for (int call = 0; call < o.calls; call++) {
            sum += o.faded(o.worth[call], ring);
        }
        return sum;
    }

    public int ears(int office) {
        Office o = told.officeAt(office);
        return o == null ? NONE : o.leastEar();
    }

    public int order(int office, int n, int k) {
        Office o = told.officeAt(office);
        if (o == null || n < 0 || n > MOST_ORDERED || n > o.calls || k < NONE || k >= n) {
            return NONE;
        }
        plans.orderCalls(o, n);
        return k == NONE ? plans.most : plans.row[k];
    }

    public int after(int office, int day, int what) {
        Office o = told.officeAt(office);
        Day d = told.dayAt(day);
        if (o == null || d == null) {
            return NO_SUCH;
        }
        floor.playDay(o, d, MOST_DEEDS);
        switch (what) {
            case 0:
                return floor.chiefHelper();
            case 1:
                return floor.halfOf(o, d);
            case 2:
                return floor.unreadDesks();
            default:
                return NO_SUCH;
        }
    }

    public int blame(int office, int log, boolean set) {
        Office o = told.officeAt(office);
        Log l = told.logAt(log);
        if (o == null || l == null || !l.tellsOnlyOf(o)) {
            return NO_SUCH;
        }
        suspects.find(o, l);
        int fewest = suspects.smallest();
        return set || fewest == NONE ? fewest : Integer.bitCount(fewest);
    }

    public int duty(int office, int n, int k) {
        Office o = told.officeAt(office);
        if (o == null || n < 0 || n > MOST_DAYS_ON_DUTY || k < NONE || k >= n) {
            return NONE;
        }
        if (n > 0 && o.desks == 0) {
            return NONE;
        }
        plans.planDuty(o, n);
        return k == NONE ? plans.most : plans.row[k];
    }

    public int passed(int office, int from, int to) {
        Office o = told.officeAt(office);
        if (o == null || !o.hasDesk(from) || !o.hasDesk(to)) {
            return NONE;
        }
        return o.passesBetween(from, to);
    }

    public int tied(int office, int desk) {
        Office o = told.officeAt(office);
        if (o == null || !o.hasDesk(desk)) {
            return NONE;
        }
        lift.asTold(o, desk, o.othersThan(desk), NO_HELP);
        return lift.tied;
    }

    public long empty(int office, int k, boolean under) {
        Office o = told.officeAt(office);
        if (o == null || k < 0 || k > o.desks) {
            return NONE;
        }
        chances.reckonHeads(o, k);
        return under ? chances.under : chances.over;
    }

    public int best(int office) {
        Office o = told.officeAt(office);
        return o == null ? NONE : plans.bestRule(o);
    }

    public int fewer(int office, int desk, int worth, int k) {
        Office o = told.officeAt(office);
        if (o == null || !o.hasDesk(desk) || worth < 0 || worth > MOST_WORTH || k < 0 || k > MOST_DESKS) {
            return NONE;
        }
        waiting.begin(o, desk, worth, k);
        return waiting.quickest();
    }

    public int loud(int office, boolean many) {
        Office o = told.officeAt(office);
        if (o == null || o.desks == 0) {
            return NONE;
        }
        int desk = o.loudestDesk();
        return many ? Integer.bitCount(o.hearers[desk]) : desk;
    }

    public int count(int sort) {
        return sort < 0 || sort >= SORTS ? NO_SUCH : told.counts[sort];
    }

    public boolean image(int k) {
        if (k < 0 || k >= IMAGES) {
            return false;
        }
        images[k].copyFrom(told);
        imageMade[k] = true;
        return true;
    }

    public boolean again(int k) {
        if (k < 0 || k >= IMAGES || !imageMade[k]) {
            return false;
        }
        told.copyFrom(images[k]);
        return true;
    }

    /** An office as told, and what follows from its places alone. */
    private static final class Office {
        int desks;
        int calls;
        int ear;
        int machine;
        int fade;
        final int[] kind = new int[MOST_DESKS];
        final int[] place = new int[MOST_DESKS];
        final int[] rings = new int[MOST_DESKS];
        final int[] cost = new int[MOST_DESKS];
        final int[] presence = new int[MOST_DESKS];
        final int[] callDesk = new int[MOST_CALLS];
        final int[] worth = new int[MOST_CALLS];
        final int[] patience = new int[MOST_CALLS];
        /** Who hear each desk (bits). */
        final int[] hearers = new int[MOST_DESKS];
        private final int[] gaps = new int[MOST_DESKS * MOST_DESKS];

        Office() {
            clear();
        }

        void clear() {
            desks = 0;
            calls = 0;
            ear = 10;
            machine = 0;
            fade = 1;
        }

        void copyFrom(Office other) {
            desks = other.desks;
            calls = other.calls;
            ear = other.ear;
            machine = other.machine;
            fade = other.fade;
            System.arraycopy(other.kind, 0, kind, 0, MOST_DESKS);
            System.arraycopy(other.place, 0, place, 0, MOST_DESKS);
            System.arraycopy(other.rings, 0, rings, 0, MOST_DESKS);
            System.arraycopy(other.cost, 0, cost, 0, MOST_DESKS);
            System.arraycopy(other.presence, 0, presence, 0, MOST_DESKS);
            System.arraycopy(other.callDesk, 0, callDesk, 0, MOST_CALLS);
            System.arraycopy(other.worth, 0, worth, 0, MOST_CALLS);
            System.arraycopy(other.patience, 0, patience, 0, MOST_CALLS);
            System.arraycopy(other.hearers, 0, hearers, 0, MOST_DESKS);
            System.arraycopy(other.gaps, 0, gaps, 0, MOST_DESKS * MOST_DESKS);
        }

        /** Once all is told: how far off all are from each other, and who hears whom. */
        void measure() {
            for (int desk = 0; desk < desks; desk++) {
                hearers[desk] = 0;
                for (int one = 0; one < desks; one++) {
                    int gap = Math.abs(place[one] - place[desk]);
                    gaps[desk * MOST_DESKS + one] = gap;
                    if (one != desk && gap <= ear) {
                        hearers[desk] |= 1 << one;
                    }
                }
            }
        }

        void addDesk(int ofKind, int[] line) {
            if (desks >= MOST_DESKS) {
                return;
            }
            kind[desks] = ofKind;
            place[desks] = line[0];
            rings[desks] = line[1];
            cost[desks] = line[2];
            presence[desks] = line[3];
            desks++;
        }

        void addCall(int[] line) {
            if (calls >= MOST_CALLS) {
                return;
            }
            callDesk[calls] = line[0];
            worth[calls] = line[1];
            patience[calls] = line[2];
            calls++;
        }

        boolean callsHaveDesks() {
            for (int call = 0; call < calls; call++) {
                if (!hasDesk(callDesk[call])) {
                    return false;
                }
            }
            return true;
        }

        int tell(int what) {
            switch (what) {
                case 0:
                    return desks;
                case 1:
                    return calls;
                case 2:
                    return ear;
                case 3:
                    return machine;
                case 4:
                    return fade;
                default:
                    return what < 10 ? NONE : tellRow(what / 10, what % 10);
            }
        }

        private int tellRow(int row, int at) {
            if (row < 6) {
                return hasDesk(at) ? tellDesk(row, at) : NONE;
            }
            return hasCall(at) ? tellCall(row, at) : NONE;
        }

        private int tellDesk(int row, int desk) {
            switch (row) {
                case 1:
                    return kind[desk];
                case 2:
                    return place[desk];
                case 3:
                    return rings[desk];
                case 4:
                    return cost[desk];
                case 5:
                    return presence[desk];
                default:
                    return NONE;
            }
        }

        private int tellCall(int row, int call) {
            switch (row) {
                case 6:
                    return callDesk[call];
                case 7:
                    return worth[call];
                case 8:
                    return patience[call];
                default:
                    return NONE;
            }
        }

        boolean hasDesk(int desk) {
            return desk >= 0 && desk < desks;
        }

        boolean hasCall(int call) {
            return call >= 0 && call < calls;
        }

        int everybody() {
            return (1 << desks) - 1;
        }

        int othersThan(int one) {
            return everybody() & ~(1 << one);
        }

        int gap(int one, int desk) {
            return gaps[desk * MOST_DESKS + one];
        }

        boolean hears(int one, int desk) {
            return (hearers[desk] >> one & 1) != 0;
        }

        /** How far off the nearest of a set is; beyond all places if it is empty. */
        int nearestGap(int desk, int set) {
            int nearest = LAST_PLACE + 1;
            for (int one = 0; one < desks; one++) {
                int gap = gaps[desk * MOST_DESKS + one];
                if ((set >> one & 1) != 0 && gap < nearest) {
                    nearest = gap;
                }
            }
            return nearest;
        }

        int faded(int ofWorth, int ring) {
            return Math.max(0, ofWorth - fade * (ring - 1));
        }

        /** Ring 0 stands for a call that nobody would lift. */
        boolean inTime(int call, int ring) {
            return ring > 0 && ring <= patience[call] && (machine == 0 || ring <= machine);
        }

        int gotAt(int call, int ring) {
            return inTime(call, ring) ? faded(worth[call], ring) : 0;
        }

        int wayToCalls(int from) {
            int sum = 0;
            for (int call = 0; call < calls; call++) {
                sum += Math.abs(place[callDesk[call]] - from);
            }
            return sum;
        }

        int boardPlace() {
            int best = 0;
            for (int from = 1; from <= LAST_PLACE; from++) {
                if (wayToCalls(from) < wayToCalls(best)) {
                    best = from;
                }
            }
            return best;
        }

        /** All who can be reached from one, step by step, by those who hear. */
        private int roomOf(int one) {
            int room = 1 << one;
            for (int step = 0; step < desks; step++) {
                room = withHearers(room);
            }
            return room;
        }

        private int withHearers(int set) {
            int grown = set;
            for (int one = 0; one < desks; one++) {
                if ((set >> one & 1) != 0) {
                    grown |= hearers[one];
                }
            }
            return grown;
        }

        int roomCount() {
            int seen = 0;
            int found = 0;
            for (int one = 0; one < desks; one++) {
                if ((seen >> one & 1) == 0) {
                    seen |= roomOf(one);
                    found++;
                }
            }
            return found;
        }

        int largestRoom() {
            int largest = 0;
            for (int one = 0; one < desks; one++) {
                largest = Math.max(largest, Integer.bitCount(roomOf(one)));
            }
            return largest;
        }

        int hearersAt(int desk, int at) {
            int many = 0;
            for (int one = 0; one < desks; one++) {
                if (one != desk && Math.abs(place[one] - at) <= ear) {
                    many++;
                }
            }
            return many;
        }

        int quietestPlace(int desk) {
            int best = 0;
            for (int at = 1; at <= LAST_PLACE; at++) {
                if (hearersAt(desk, at) < hearersAt(desk, best)) {
                    best = at;
                }
            }
            return best;
        }

        int ringsHeard(int one) {
            int sum = 0;
            for (int call = 0; call < calls; call++) {
                if (hears(one, callDesk[call])) {
                    sum += machine == 0 ? patience[call] : Math.min(patience[call], machine);
                }
            }
            return sum;
        }

        int leastEar() {
            int least = 0;
            for (int desk = 0; desk < desks; desk++) {
                int nearest = nearestGap(desk, othersThan(desk));
                if (nearest > LAST_PLACE) {
                    return NONE;
                }
                least = Math.max(least, nearest);
            }
            return least;
        }

        int passesBetween(int from, int to) {
            int reached = 1 << from;
            for (int passes = 0; passes < MOST_DESKS; passes++) {
                if ((reached >> to & 1) != 0) {
                    return passes;
                }
                reached = withHearers(reached);
            }
            return NONE;
        }

        int loudestDesk() {
            int loudest = 0;
            for (int desk = 1; desk < desks; desk++) {
                if (Integer.bitCount(hearers[desk]) > Integer.bitCount(hearers[loudest])) {
                    loudest = desk;
                }
            }
            return loudest;
        }
    }

    /** The deeds of a day as told. */
    private static final class Day {
        int count;
        final int[] deeds = new int[MOST_DEEDS];
        final int[] numbers = new int[MOST_DEEDS];

        void copyFrom(Day other) {
            count = other.count;
            System.arraycopy(other.deeds, 0, deeds, 0, MOST_DEEDS);
            System.arraycopy(other.numbers, 0, numbers, 0, MOST_DEEDS);
        }

        void add(int deed, int number) {
            if (count >= MOST_DEEDS) {
                return;
            }
            deeds[count] = deed;
            numbers[count] = number;
            count++;
        }

        int tell(int k, int what) {
            if (k < 0 || k >= count || what < 0 || what > 1) {
                return NO_SUCH;
            }
            return what == 0 ? deeds[k] : numbers[k];
        }
    }

    /** The facts of a log as told; of a silent one who and ring are NONE. */
    private static final class Log {
        int count;
        final int[] desk = new int[MOST_FACTS];
        final int[] lifter = new int[MOST_FACTS];
        final int[] ring = new int[MOST_FACTS];

        void copyFrom(Log other) {
            count = other.count;
            System.arraycopy(other.desk, 0, desk, 0, MOST_FACTS);
            System.arraycopy(other.lifter, 0, lifter, 0, MOST_FACTS);
            System.arraycopy(other.ring, 0, ring, 0, MOST_FACTS);
        }

        void add(int rang, int who, int at) {
            if (count >= MOST_FACTS) {
                return;
            }
            desk[count] = rang;
            lifter[count] = who;
            ring[count] = at;
            count++;
        }

        int tell(int k, int what) {
            if (k < 0 || k >= count) {
                return NO_SUCH;
            }
            switch (what) {
                case 0:
                    return lifter[k] == NONE ? 0 : 1;
                case 1:
                    return desk[k];
                case 2:
                    return lifter[k];
                case 3:
                    return ring[k];
                default:
                    return NO_SUCH;
            }
        }

        boolean tellsOnlyOf(Office o) {
            for (int k = 0; k < count; k++) {
                if (!o.hasDesk(desk[k]) || (lifter[k] != NONE && !o.hasDesk(lifter[k]))) {
                    return false;
                }
            }
            return true;
        }
    }

    /** All that is told: what an image holds. */
    private static final class Told {
        final byte[] tape = new byte[MOST_BYTES];
        int length;
        int fault;
        int faultPlace = NONE;
        final int[] counts = new int[SORTS];
        final Office[] offices = new Office[MOST_TOLD];
        final Day[] days = new Day[MOST_TOLD];
        final Log[] logs = new Log[MOST_TOLD];

        Told() {
            for (int i = 0; i < MOST_TOLD; i++) {
                offices[i] = new Office();
                days[i] = new Day();
                logs[i] = new Log();
            }
        }

        void copyFrom(Told other) {
            length = other.length;
            fault = other.fault;
            faultPlace = other.faultPlace;
            System.arraycopy(other.tape, 0, tape, 0, MOST_BYTES);
            System.arraycopy(other.counts, 0, counts, 0, SORTS);
            for (int i = 0; i < MOST_TOLD; i++) {
                offices[i].copyFrom(other.offices[i]);
                days[i].copyFrom(other.days[i]);
                logs[i].copyFrom(other.logs[i]);
            }
        }

        void putNumber(int number) {
            for (int shift = 24; shift >= 0; shift -= 8) {
                if (length < MOST_BYTES) {
                    tape[length] = (byte) (number >>> shift);
                    length++;
                }
            }
        }

        /** Where a text of a sort would go; NONE if it can't. */
        int slotFor(int sort, int at) {
            if (sort < 0 || sort >= SORTS) {
                return NONE;
            }
            if (at == NONE) {
                return counts[sort] < MOST_TOLD ? counts[sort] : NONE;
            }
            return at >= 0 && at < counts[sort] ? at : NONE;
        }

        void keep(int sort, int slot, Reader reader) {
            if (sort == OFFICES) {
                offices[slot].copyFrom(reader.office);
            } else if (sort == DAYS) {
                days[slot].copyFrom(reader.day);
            } else {
                logs[slot].copyFrom(reader.log);
            }
            counts[sort] = Math.max(counts[sort], slot + 1);
        }

        Office officeAt(int n) {
            return n >= 0 && n < counts[OFFICES] ? offices[n] : null;
        }

        Day dayAt(int n) {
            return n >= 0 && n < counts[DAYS] ? days[n] : null;
        }

        Log logAt(int n) {
            return n >= 0 && n < counts[LOGS] ? logs[n] : null;
        }
    }

    /** Reads the tape as a text into an office, a day or a log of its own. */
    private static final class Reader {
        private static final int AT_END = 0;
        private static final int WORD = 1;
        private static final int NUMBER = 2;
        private static final int SEMICOLON = 3;
        private static final int NO_TOKEN = 4;

        private static final int BROKEN = 1;
        private static final int WRONG_NUMBER = 2;
        private static final int TOO_MANY = 3;
        private static final int NO_DESK = 4;

        private static final int CALL_WORD = 5;
        private static final int EAR_WORD = 6;
        private static final int MACHINE_WORD = 7;
        private static final int FADE_WORD = 8;
        private static final int LIFTED_WORD = 13;

        /** The words of sort s are those from FIRST_WORD[s] on, up to FIRST_WORD[s + 1]. */
        private static final int[] FIRST_WORD = {0, 9, 13, 15};
        private static final int[] NUMBERS_OF = {4, 4, 4, 4, 4, 3, 1, 1, 1, 1, 1, 1, 1, 3, 1};
        private static final int[] DESK_LEAST = {0, 1, 0, 0};
        private static final int[] DESK_MOST = {30, 12, 20, 10};
        private static final int[] CALL_LEAST = {0, 0, 1};
        private static final int[] CALL_MOST = {7, 99, 20};
        private static final int[] LIFTED_LEAST = {0, 0, 1};
        private static final int[] LIFTED_MOST = {7, 7, 12};
        /** The most of the one number behind each word, where it has one alone. */
        private static final int[] ONLY_MOST = {0, 0, 0, 0, 0, 0, 30, 20, 9, 9, 7, 7, 7, 0, 7};

        final Office office = new Office();
        final Day day = new Day();
        final Log log = new Log();
        int fault;
        int faultPlace = NONE;
        private byte[] tape = new byte[0];
        private final int[] line = new int[4];
        private int length;
        private int token;
        private int start;
        private int next;
        private int value;

        void readText(int sort, byte[] from, int bytes) {
            tape = from;
            length = Math.min(bytes, from.length);
            next = 0;
            fault = 0;
            faultPlace = NONE;
            office.clear();
            day.count = 0;
            log.count = 0;
            for (int lines = 0; lines <= length; lines++) {
                takeToken();
                if (token == AT_END) {
                    break;
                }
                if (!readLine(sort)) {
                    fault = BROKEN;
                    faultPlace = start;
                    return;
                }
            }
            if (sort == OFFICES) {
                office.measure();
                if (!office.callsHaveDesks()) {
                    mark(NO_DESK, length);
                }
            }
        }

        /** Faults are found by rising places, so the first one marked stays. */
        private void mark(int what, int place) {
            if (fault == 0) {
                fault = what;
                faultPlace = place;
            }
        }

        /** False if no text goes on with the latest token. */
        private boolean readLine(int sort) {
            int word = token == WORD ? wordHere(sort) : NONE;
            if (word == NONE) {
                return false;
            }
            if (isFull(word)) {
                mark(TOO_MANY, start);
            }
            for (int i = 0; i < NUMBERS_OF[word]; i++) {
                takeToken();
                if (token != NUMBER) {
                    return false;
                }
                line[i] = value;
                if (!canBe(word, i)) {
                    mark(WRONG_NUMBER, start);
                }
            }
            takeToken();
            if (token != SEMICOLON) {
                return false;
            }
            if (fault == 0) {
                store(sort, word);
            }
            return true;
        }

        private boolean isFull(int word) {
            if (word < CALL_WORD) {
                return office.desks >= MOST_DESKS;
            }
            if (word == CALL_WORD) {
                return office.calls >= MOST_CALLS;
            }
            if (word < FIRST_WORD[DAYS]) {
                return false;
            }
            return word < FIRST_WORD[LOGS] ? day.count >= MOST_DEEDS : log.count >= MOST_FACTS;
        }

        private boolean canBe(int word, int i) {
            int number = line[i];
            if (word < CALL_WORD) {
                return number >= DESK_LEAST[i] && number <= DESK_MOST[i];
            }
            if (word == CALL_WORD) {
                return number >= CALL_LEAST[i] && number <= CALL_MOST[i];
            }
            if (word == LIFTED_WORD) {
                boolean ownDesk = i == 1 && number == line[0];
                return !ownDesk && number >= LIFTED_LEAST[i] && number <= LIFTED_MOST[i];
            }
            return number <= ONLY_MOST[word];
        }

        private void store(int sort, int word) {
            if (sort == DAYS) {
                day.add(word - FIRST_WORD[DAYS], line[0]);
            } else if (sort == LOGS) {
                boolean lifted = word == LIFTED_WORD;
                log.add(line[0], lifted ? line[1] : NONE, lifted ? line[2] : NONE);
            } else {
                storeOffice(word);
            }
        }

        private void storeOffice(int word) {
            switch (word) {
                case CALL_WORD:
                    office.addCall(line);
                    break;
                case EAR_WORD:
                    office.ear = line[0];
                    break;
                case MACHINE_WORD:
                    office.machine = line[0];
                    break;
                case FADE_WORD:
                    office.fade = line[0];
                    break;
                default:
                    office.addDesk(word, line);
                    break;
            }
        }

        private void takeToken() {
            while (next < length && (tape[next] == 10 || tape[next] == 32)) {
                next++;
            }
            start = next;
            if (next >= length) {
                token = AT_END;
            } else if (isLetter(tape[next])) {
                takeWord();
            } else if (isDigit(tape[next])) {
                takeNumber();
            } else {
                token = tape[next] == ';' ? SEMICOLON : NO_TOKEN;
                next++;
            }
        }

        private void takeWord() {
            while (next < length && isLetter(tape[next])) {
                next++;
            }
            token = WORD;
        }

        private void takeNumber() {
            value = 0;
            while (next < length && isDigit(tape[next])) {
                value = value * 10 + tape[next] - '0';
                next++;
            }
            token = next - start <= 2 ? NUMBER : NO_TOKEN;
        }

        private static boolean isLetter(byte b) {
            return b >= 'a' && b <= 'z';
        }

        private static boolean isDigit(byte b) {
            return b >= '0' && b <= '9';
        }

        /** Which word of a sort the latest token is; NONE if it is none. */
        private int wordHere(int sort) {
            for (int word = FIRST_WORD[sort]; word < FIRST_WORD[sort + 1]; word++) {
                if (isHere(spelling(word))) {
                    return word;
                }
            }
            return NONE;
        }

        private boolean isHere(String word) {
            if (next - start != word.length()) {
                return false;
            }
            for (int i = 0; i < word.length(); i++) {
                if (tape[start + i] != word.charAt(i)) {
                    return false;
                }
            }
            return true;
        }

        private static String spelling(int word) {
            switch (word) {
                case 0: return "plain";
                case 1: return "soft";
                case 2: return "deaf";
                case 3: return "fair";
                case 4: return "near";
                case 5: return "call";
                case 6: return "ear";
                case 7: return "machine";
                case 8: return "fade";
                case 9: return "ring";
                case 10: return "away";
                case 11: return "back";
                case 12: return "read";
                case 13: return "lifted";
                default: return "silent";
            }
        }
    }

    /** Who lifts a desk that rings, and at which ring. */
    private static final class Lift {
        /** NONE: nobody. */
        int who = NONE;
        /** 0: nobody. */
        int ring;
        /** All who would lift at that ring. */
        int tied;

        private void clear() {
            who = NONE;
            ring = 0;
            tied = 0;
        }

        void asTold(Office o, int desk, int there, int[] helped) {
            clear();
            if ((there >> desk & 1) != 0) {
                offer(o, desk, desk, 1);
                return;
            }
            int ears = o.hearers[desk] & there;
            for (int one = 0; one < o.desks; one++) {
                if ((ears >> one & 1) != 0) {
                    offer(o, one, desk, ringOf(o, one, desk, ears, helped[one]));
                }
            }
        }

        /** All who hear it, the deaf ones only if they are asked too, lift at one and the same ring. */
        void allAt(Office o, int desk, int at, boolean deafToo) {
            clear();
            for (int one = 0; one < o.desks; one++) {
                if (o.hears(one, desk) && (deafToo || o.kind[one] != DEAF)) {
                    offer(o, one, desk, at);
                }
            }
        }

        /** The first who hears it from one on, round and round, lifts at once. */
        void byTurns(Office o, int desk, int from) {
            clear();
            for (int step = 0; step < o.desks && who == NONE; step++) {
                int one = from + step < o.desks ? from + step : from + step - o.desks;
                if (o.hears(one, desk)) {
                    offer(o, one, desk, 1);
                }
            }
        }

        private void offer(Office o, int one, int desk, int at) {
            if (at == 0) {
                return;
            }
            if (who == NONE || at < ring) {
                who = one;
                ring = at;
                tied = 1 << one;
            } else if (at == ring) {
                tied |= 1 << one;
                if (o.gap(one, desk) < o.gap(who, desk)) {
                    who = one;
                }
            }
        }

        /** At which ring one of those who are there and hear it would lift; 0: at none. */
        private static int ringOf(Office o, int one, int desk, int ears, int helped) {
            int rings = o.rings[one];
            switch (o.kind[one]) {
                case PLAIN:
                    return rings;
                case SOFT:
                    return rings - helped > 1 ? rings - helped : 1;
                case FAIR:
                    return rings + helped;
                case NEAR:
                    return o.gap(one, desk) == o.nearestGap(desk, ears) ? rings : 0;
                default:
                    return 0;
            }
        }
    }

    /** How an office stands while things happen in it. */
    private static final class Floor {
        int answered;
        int got;
        int paid;
        private Office office = new Office();
        private int there;
        private int gone;
        private int took;
        private int clashes;
        private int seed;
        private final int[] helped = new int[MOST_DESKS];
        private final int[] slips = new int[MOST_DESKS];
        private final int[] slipsRead = new int[MOST_DESKS];
        private final Lift lift = new Lift();

        void begin(Office o) {
            office = o;
            there = o.everybody();
            answered = 0;
            gone = 0;
            took = 0;
            got = 0;
            paid = 0;
            clashes = 0;
            for (int d = 0; d < MOST_DESKS; d++) {
                helped[d] = 0;
                slips[d] = 0;
                slipsRead[d] = 0;
            }
        }

        /** Plays so many deeds of a day at most; answers how many could be. */
        int playDay(Office o, Day day, int limit) {
            begin(o);
            int most = Math.min(limit, day.count);
            for (int k = 0; k < most; k++) {
                if (!act(day.deeds[k], day.numbers[k])) {
                    return k;
                }
            }
            return most;
        }

        void playDrawn(Office o, int first, int times) {
            begin(o);
            seed = first;
            for (int i = 0; i < times; i++) {
                int pick = drawBelow(8);
                int from = pick < 4 ? o.calls : o.desks;
                if (from > 0) {
                    int deed = pick < 4 ? RING : pick == 4 ? AWAY : pick == 7 ? READ : BACK;
                    act(deed, drawBelow(from));
                }
            }
        }

        private int drawBelow(int n) {
            seed = seed * 1103515245 + 12345;
            return n > 0 ? (seed >>> 16) % n : 0;
        }

        /** All calls ring, one behind the other, by a rule. */
        void playRule(Office o, int rule) {
            begin(o);
            int turn = 0;
            for (int call = 0; call < o.calls; call++) {
                ringEmptyDesk(call, rule, turn);
                if (rule == 3 && lift.who != NONE) {
                    turn = lift.who + 1;
                }
            }
        }

        /** A call rings by a rule, its desk's own one being away just then. */
        void ringEmptyDesk(int call, int rule, int turn) {
            int desk = office.callDesk[call];
            switch (rule) {
                case 0:
                    lift.asTold(office, desk, office.othersThan(desk), helped);
                    break;
                case 1:
                    lift.allAt(office, desk, 3, false);
                    break;
                case 2:
                    lift.allAt(office, desk, 2, true);
                    break;
                default:
                    lift.byTurns(office, desk, turn);
                    break;
            }
            settle(call);
        }

        /** Does a deed; false, and nothing is done, if it can't be. */
        private boolean act(int deed, int number) {
            if (deed == RING) {
                return ringCall(number);
            }
            if (!office.hasDesk(number)) {
                return false;
            }
            boolean isThere = (there >> number & 1) != 0;
            if (isThere == (deed == BACK)) {
                return false;
            }
            if (deed == READ) {
                return readSlips(number);
            }
            there ^= 1 << number;
            return true;
        }

        private boolean ringCall(int call) {
            if (!office.hasCall(call) || (answered >> call & 1) != 0) {
                return false;
            }
            lift.asTold(office, office.callDesk[call], there, helped);
            settle(call);
            return true;
        }

        private boolean readSlips(int desk) {
            if (slips[desk] == 0) {
                return false;
            }
            slipsRead[desk] += slips[desk];
            slips[desk] = 0;
            return true;
        }

        private void settle(int call) {
            if (!office.inTime(call, lift.ring)) {
                miss(call);
                return;
            }
            answered |= 1 << call;
            got += office.faded(office.worth[call], lift.ring);
            if (Integer.bitCount(lift.tied) > 1) {
                clashes++;
            }
            int desk = office.callDesk[call];
            if (lift.who != desk) {
                helped[lift.who]++;
                paid += office.cost[lift.who];
                slips[desk]++;
            }
        }

        private void miss(int call) {
            if (office.machine > 0 && office.machine <= office.patience[call]) {
                took++;
            } else {
                gone++;
            }
        }

        int tell(int what) {
            switch (what) {
                case 0:
                    return there;
                case 1:
                    return answered;
                case 2:
                    return gone;
                case 3:
                    return took;
                case 4:
                    return got;
                case 5:
                    return paid;
                case 6:
                    return clashes;
                default:
                    return what < 10 ? NO_SUCH : tellDesk(what / 10, what % 10);
            }
        }

        private int tellDesk(int row, int desk) {
            if (!office.hasDesk(desk)) {
                return NO_SUCH;
            }
            switch (row) {
                case 1:
                    return helped[desk];
                case 2:
                    return slips[desk];
                case 3:
                    return slipsRead[desk];
                default:
                    return NO_SUCH;
            }
        }

        int mostHelped() {
            int most = 0;
            for (int one = 0; one < MOST_DESKS; one++) {
                most = Math.max(most, helped[one]);
            }
            return most;
        }

        int chiefHelper() {
            int most = mostHelped();
            for (int one = 0; one < MOST_DESKS; one++) {
                if (most > 0 && helped[one] == most) {
                    return one;
                }
            }
            return NONE;
        }

        int unreadDesks() {
            int bits = 0;
            for (int desk = 0; desk < MOST_DESKS; desk++) {
                if (slips[desk] > 0) {
                    bits |= 1 << desk;
                }
            }
            return bits;
        }

        /** After how many deeds of a day, just played to its stop, half of what it brings is there. */
        int halfOf(Office o, Day day) {
            int end = got;
            begin(o);
            for (int k = 0; k < day.count; k++) {
                if (2 * got >= end || !act(day.deeds[k], day.numbers[k])) {
                    return k;
                }
            }
            return day.count;
        }
    }

    /** Odds and means as fractions in least terms. */
    private static final class Chances {
        long over;
        long under = 1;
        /** The desks as the button takes a call round. */
        final int[] row = new int[MOST_DESKS];
        private final Lift lift = new Lift();

        /** How likely a call is answered, or what it brings in the mean. */
        void reckonCall(Office o, int call, boolean mean) {
            over = 0;
            for (int set = 0; set <= o.everybody(); set++) {
                long weight = weightOf(o, set);
                if (weight > 0) {
                    lift.asTold(o, o.callDesk[call], set, NO_HELP);
                    int gain = mean ? o.gotAt(call, lift.ring) : o.inTime(call, lift.ring) ? 1 : 0;
                    over += weight * gain;
                }
            }
            under = tenTo(o.desks);
            reduce();
        }

        /** How likely just so many are there. */
        void reckonHeads(Office o, int heads) {
            over = 0;
            for (int set = 0; set <= o.everybody(); set++) {
                if (Integer.bitCount(set) == heads) {
                    over += weightOf(o, set);
                }
            }
            under = tenTo(o.desks);
            reduce();
        }

        void reckonButton(Office o) {
            layRow(o);
            under = tenTo(o.desks);
            over = 0;
            long stillRinging = under;
            for (int k = 0; k < o.desks; k++) {
                over += stillRinging;
                stillRinging = stillRinging / 10 * (10 - o.presence[row[k]]);
            }
            reduce();
        }

        /**
         * The likelier ones come first; but behind one who is there for sure nobody is tried,
         * so that there the row goes on by numbers alone.
         */
        private void layRow(Office o) {
            int laid = 0;
            boolean sure = false;
            for (int k = 0; k < o.desks; k++) {
                int pick = NONE;
                for (int desk = 0; desk < o.desks; desk++) {
                    boolean free = (laid >> desk & 1) == 0;
                    if (free && (pick == NONE || (!sure && o.presence[desk] > o.presence[pick]))) {
                        pick = desk;
                    }
                }
                if (pick == NONE) {
                    return;
                }
                row[k] = pick;
                laid |= 1 << pick;
                sure = sure || o.presence[pick] == 10;
            }
        }

        /** How likely just these are there, of ten to the desks. */
        private static long weightOf(Office o, int set) {
            long weight = 1;
            for (int one = 0; one < o.desks; one++) {
                weight *= (set >> one & 1) != 0 ? o.presence[one] : 10 - o.presence[one];
            }
            return weight;
        }

        private static long tenTo(int n) {
            long power = 1;
            for (int i = 0; i < n; i++) {
                power *= 10;
            }
            return power;
        }

        private void reduce() {
            long a = over;
            long b = under;
            // Every second step halves what is left, so that 200 steps are enough for any two longs.
            for (int step = 0; step < 200 && b > 0; step++) {
                long left = a % b;
                a = b;
                b = left;
            }
            if (a > 0) {
                over /= a;
                under /= a;
            }
        }
    }

    /**
     * The game of waiting for each other while an empty desk rings.
     *
     * Its rests come in families: in one, the same one lifts at the same ring, and what each says
     * is free among some choices, whatever the others choose. No rest is in two of them.
     */
    private static final class Waiting {
        private static final int NEVER = 0;
        private static final int LAST_RING = 3;
        /** A family for each who lifts and each ring, and one in which nobody lifts. */
        private static final int MOST_FAMILIES = (MOST_DESKS - 1) * LAST_RING + 1;

        private int players;
        private final int[] gaps = new int[MOST_DESKS];
        private final int[] costs = new int[MOST_DESKS];
        /** What is won by a lift at ring 1, 2, 3. */
        private final int[] wins = new int[LAST_RING + 1];
        private int families;
        /** What each player may say in each family (bits). */
        private final int[] choices = new int[MOST_FAMILIES * MOST_DESKS];
        private boolean lifted;

        /** So many at most, the first by numbers, play. */
        void begin(Office o, int desk, int worth, int most) {
            players = 0;
            for (int one = 0; one < o.desks; one++) {
                if (players < most && o.hears(one, desk) && o.kind[one] != DEAF) {
                    gaps[players] = o.gap(one, desk);
                    costs[players] = o.cost[one];
                    players++;
                }
            }
            for (int ring = 1; ring <= LAST_RING; ring++) {
                wins[ring] = o.faded(worth, ring);
            }
            findFamilies();
        }

        /** Who lifts would rather lift at ring 1, if that wins more, and rather not at all, if it costs more. */
        private void findFamilies() {
            families = 0;
            lifted = false;
            if (nobodyWouldLift()) {
                addSilence();
            }
            for (int ring = 1; ring <= LAST_RING; ring++) {
                for (int lifter = 0; lifter < players; lifter++) {
                    if (wins[ring] == wins[1] && wins[ring] >= costs[lifter]) {
                        addFamily(lifter, ring);
                        lifted = true;
                    }
                }
            }
        }

        private boolean nobodyWouldLift() {
            for (int i = 0; i < players; i++) {
                if (wins[1] > costs[i]) {
                    return false;
                }
            }
            return true;
        }

        private void addSilence() {
            for (int i = 0; i < players; i++) {
                choices[families * MOST_DESKS + i] = 1 << NEVER;
            }
            families++;
        }

        private void addFamily(int lifter, int ring) {
            for (int i = 0; i < players; i++) {
                choices[families * MOST_DESKS + i] = i == lifter ? 1 << ring : choicesBeside(i, lifter, ring);
            }
            families++;
        }

        /** Another may say what neither makes him lift nor lets the lifter win more by leaving it to him. */
        private int choicesBeside(int other, int lifter, int ring) {
            int bits = 1 << NEVER;
            for (int said = ring; said <= LAST_RING; said++) {
                boolean lifterStays = wins[said] <= wins[ring] - costs[lifter];
                if (lifterStays && (said > ring || isBehind(other, lifter))) {
                    bits |= 1 << said;
                }
            }
            return bits;
        }

        /** Whether of two who say the same ring the other one would lift. */
        private boolean isBehind(int one, int other) {
            return gaps[one] > gaps[other] || (gaps[one] == gaps[other] && one > other);
        }

        int howMany() {
            int sum = 0;
            for (int family = 0; family < families; family++) {
                sum += rowsFrom(family, 0);
            }
            return sum;
        }

        /** How many ways a family leaves open to the players from one on. */
        private int rowsFrom(int family, int from) {
            int ways = 1;
            for (int i = from; i < players; i++) {
                ways *= Integer.bitCount(choices[family * MOST_DESKS + i]);
            }
            return ways;
        }

        int restAt(int k) {
            if (k < 0 || k >= howMany()) {
                return NONE;
            }
            int left = k;
            int row = 0;
            int alive = (1 << families) - 1;
            for (int i = 0; i < players; i++) {
                int said = 0;
                int rows = rowsSaying(alive, i, said);
                while (said < LAST_RING && left >= rows) {
                    left -= rows;
                    said++;
                    rows = rowsSaying(alive, i, said);
                }
                row = row * 4 + said;
                alive = familiesSaying(alive, i, said);
            }
            return row;
        }

        private int familiesSaying(int alive, int player, int said) {
            int bits = 0;
            for (int family = 0; family < families; family++) {
                boolean may = (choices[family * MOST_DESKS + player] >> said & 1) != 0;
                if (may && (alive >> family & 1) != 0) {
                    bits |= 1 << family;
                }
            }
            return bits;
        }

        /** How many rests of some families have a player say a thing, those before him having spoken. */
        private int rowsSaying(int alive, int player, int said) {
            int agreeing = familiesSaying(alive, player, said);
            int sum = 0;
            for (int family = 0; family < families; family++) {
                if ((agreeing >> family & 1) != 0) {
                    sum += rowsFrom(family, player + 1);
                }
            }
            return sum;
        }

        /** Who lifts at a later ring in a rest could as well at ring 1, and that is a rest, too. */
        int quickest() {
            return lifted ? 1 : NONE;
        }
    }

    /** The sets of deaf ones by which all facts of a log are so. */
    private static final class Suspects {
        private int found;
        private final int[] sets = new int[1 << MOST_DESKS];
        private final Office guess = new Office();
        private final Lift lift = new Lift();
        /** How often each one lifts, and nobody, who is counted last. */
        private final int[] tally = new int[MOST_DESKS + 1];

        void find(Office o, Log log) {
            guess.copyFrom(o);
            found = 0;
            for (int set = 0; set <= o.everybody(); set++) {
                suppose(set);
                if (agrees(log)) {
                    sets[found] = set;
                    found++;
                }
            }
        }

        private void suppose(int set) {
            for (int one = 0; one < guess.desks; one++) {
                guess.kind[one] = (set >> one & 1) != 0 ? DEAF : PLAIN;
            }
        }

        private boolean agrees(Log log) {
            for (int k = 0; k < log.count; k++) {
                lift.asTold(guess, log.desk[k], guess.othersThan(log.desk[k]), NO_HELP);
                if (lift.who != log.lifter[k] || (lift.who != NONE && lift.ring != log.ring[k])) {
                    return false;
                }
            }
            return true;
        }

        int tell(int what) {
            if (what >= 10) {
                return what - 10 < found ? sets[what - 10] : NO_SUCH;
            }
            switch (what) {
                case 0:
                    return found;
                case 1:
                    return found == 0 ? NONE : inAll();
                case 2:
                    return found == 0 ? NONE : inNone();
                case 3:
                    return found == 0 ? NONE : deskToTry();
                default:
                    return NO_SUCH;
            }
        }

        private int inAll() {
            int bits = guess.everybody();
            for (int i = 0; i < found; i++) {
                bits &= sets[i];
            }
            return bits;
        }

        private int inNone() {
            int bits = guess.everybody();
            for (int i = 0; i < found; i++) {
                bits &= ~sets[i];
            }
            return bits;
        }

        private int deskToTry() {
            int best = NONE;
            int least = 0;
            for (int desk = 0; desk < guess.desks; desk++) {
                int worst = mostAlike(desk);
                if (best == NONE || worst < least) {
                    best = desk;
                    least = worst;
                }
            }
            return best;
        }

        /** How many of the sets can be left at most, if it is tried who lifts a desk. */
        private int mostAlike(int desk) {
            for (int one = 0; one <= MOST_DESKS; one++) {
                tally[one] = 0;
            }
            int most = 0;
            for (int i = 0; i < found; i++) {
                suppose(sets[i]);
                lift.asTold(guess, desk, guess.othersThan(desk), NO_HELP);
                int at = lift.who == NONE ? MOST_DESKS : lift.who;
                tally[at]++;
                most = Math.max(most, tally[at]);
            }
            return most;
        }

        /** The set with the fewest; NONE if nothing fits. */
        int smallest() {
            int best = NONE;
            for (int i = 0; i < found; i++) {
                if (best == NONE || Integer.bitCount(sets[i]) < Integer.bitCount(best)) {
                    best = sets[i];
                }
            }
            return best;
        }
    }

    /** The best of many ways to run an office. */
    private static final class Plans {
        private static final int MASKS = 1 << MOST_DESKS;
        /** To whom a call is given that is given to nobody. */
        private static final int NOBODY = 8;

        int most;
        int awaySet;
        /** By calls, by turns of calls, or by days: whom or which the plan takes. */
        final int[] row = new int[MOST_DAYS_ON_DUTY];
        private final Floor floor = new Floor();
        private final Lift lift = new Lift();
        private final int[] trial = new int[MOST_ORDERED];
        private final int[] toGive = new int[(MOST_CALLS + 1) * MASKS];
        private final int[] dutyCost = new int[(MOST_DAYS_ON_DUTY + 1) * MOST_DESKS];

        int fewestThere(Office o) {
            int best = NONE;
            for (int set = 0; set <= o.everybody(); set++) {
                boolean fewer = best == NONE || Integer.bitCount(set) < Integer.bitCount(best);
                if (fewer && liftsAll(o, set)) {
                    best = set;
                }
            }
            return best;
        }

        private boolean liftsAll(Office o, int there) {
            for (int desk = 0; desk < o.desks; desk++) {
                lift.asTold(o, desk, there, NO_HELP);
                if (lift.who == NONE) {
                    return false;
                }
            }
            return true;
        }

        void planLunch(Office o, int n) {
            most = NONE;
            awaySet = 0;
            for (int away = 0; away <= o.everybody(); away++) {
                if (Integer.bitCount(away) == n) {
                    int sum = gotWithout(o, away);
                    if (sum > most) {
                        most = sum;
                        awaySet = away;
                    }
                }
            }
        }

        private int gotWithout(Office o, int away) {
            int sum = 0;
            for (int call = 0; call < o.calls; call++) {
                lift.asTold(o, o.callDesk[call], o.everybody() & ~away, NO_HELP);
                sum += o.gotAt(call, lift.ring);
            }
            return sum;
        }

        int bestRule(Office o) {
            int best = NONE;
            int gain = 0;
            for (int rule = 0; rule < RULES; rule++) {
                floor.playRule(o, rule);
                if (best == NONE || floor.got - floor.paid > gain) {
                    best = rule;
                    gain = floor.got - floor.paid;
                }
            }
            return best;
        }

        void giveCalls(Office o) {
            for (int busy = 0; busy < MASKS; busy++) {
                toGive[o.calls * MASKS + busy] = 0;
            }
            for (int call = o.calls - 1; call >= 0; call--) {
                for (int busy = 0; busy <= o.everybody(); busy++) {
                    toGive[call * MASKS + busy] = bestGift(o, call, busy);
                }
            }
            most = toGive[0];
            int busy = 0;
            for (int call = 0; call < o.calls; call++) {
                row[call] = firstTaker(o, call, busy);
                if (row[call] != NOBODY) {
                    busy |= 1 << row[call];
                }
            }
        }

        private static int takers(Office o, int call, int busy) {
            int desk = o.callDesk[call];
            return (o.hearers[desk] | 1 << desk) & ~busy;
        }

        /** What the calls from this one on are worth if one takes it, others being busy already. */
        private int giftTo(Office o, int one, int call, int busy) {
            return o.worth[call] + toGive[(call + 1) * MASKS + (busy | 1 << one)];
        }

        private int bestGift(Office o, int call, int busy) {
            int best = toGive[(call + 1) * MASKS + busy];
            int takers = takers(o, call, busy);
            for (int one = 0; one < o.desks; one++) {
                if ((takers >> one & 1) != 0) {
                    best = Math.max(best, giftTo(o, one, call, busy));
                }
            }
            return best;
        }

        private int firstTaker(Office o, int call, int busy) {
            int takers = takers(o, call, busy);
            for (int one = 0; one < o.desks; one++) {
                if ((takers >> one & 1) != 0 && giftTo(o, one, call, busy) == toGive[call * MASKS + busy]) {
                    return one;
                }
            }
            return NOBODY;
        }

        void orderCalls(Office o, int n) {
            most = NONE;
            for (int i = 0; i < n; i++) {
                trial[i] = i;
            }
            // No more than 5! orders are there.
            for (int tries = 0; tries < 120; tries++) {
                int sum = gotInOrder(o, n);
                if (sum > most) {
                    most = sum;
                    System.arraycopy(trial, 0, row, 0, n);
                }
                if (!nextTrial(n)) {
                    return;
                }
            }
        }

        private int gotInOrder(Office o, int n) {
            floor.begin(o);
            for (int i = 0; i < n; i++) {
                floor.ringEmptyDesk(trial[i], 0, 0);
            }
            return floor.got;
        }

        /** The next order by numbers; false behind the last one. */
        private boolean nextTrial(int n) {
            int at = n - 2;
            while (at >= 0 && trial[at] > trial[at + 1]) {
                at--;
            }
            if (at < 0) {
                return false;
            }
            int other = n - 1;
            while (other > at + 1 && trial[other] < trial[at]) {
                other--;
            }
            swapTrial(at, other);
            for (int low = at + 1, high = n - 1; low < high; low++, high--) {
                swapTrial(low, high);
            }
            return true;
        }

        private void swapTrial(int a, int b) {
            int kept = trial[a];
            trial[a] = trial[b];
            trial[b] = kept;
        }

        void planDuty(Office o, int n) {
            for (int one = 0; one < o.desks; one++) {
                dutyCost[n * MOST_DESKS + one] = 0;
            }
            for (int day = n - 1; day >= 0; day--) {
                for (int one = 0; one < o.desks; one++) {
                    int next = cheapest(o, day + 1, one);
                    dutyCost[day * MOST_DESKS + one] = o.cost[one] + dutyCost[(day + 1) * MOST_DESKS + next];
                }
            }
            int last = NONE;
            for (int day = 0; day < n; day++) {
                last = cheapest(o, day, last);
                row[day] = last;
            }
            most = n == 0 ? 0 : dutyCost[row[0]];
        }

        /** Who is best on duty from a day on, of several the least; not who was before, but if he is alone. */
        private int cheapest(Office o, int day, int before) {
            int best = NONE;
            for (int one = 0; one < o.desks; one++) {
                boolean may = one != before || o.desks == 1;
                if (may && (best == NONE || dutyCost[day * MOST_DESKS + one] < dutyCost[day * MOST_DESKS + best])) {
                    best = one;
                }
            }
            return best == NONE ? 0 : best;
        }
    }
}
