import java.util.Arrays;

/**
 * Nobody between two friends: benches of kinds with seats, persons who are friends, openly or in
 * secret. What each call promises stands in the project's document, promise by promise.
 */
public final class NobodyBetween {
    private static final int LOW = -1000001;
    private static final int BEYOND = 0;
    private static final int FULL = 1;
    private static final int KIND = 2;
    private static final int NONE = 3;
    private static final int STATE = 4;
    private static final int MISSING = 5;
    private static final int SIZE = 6;
    private static final int FINDINGS = 7;

    private static final int PERSONS = 8;
    private static final int NOBODY = -1;
    /** How numbers of texts and sheets tell an empty seat. */
    private static final int TOLD_NOBODY = 8;
    private static final int ALL_PERSONS = 255;
    private static final int WEIGHT_MOST = 99;
    private static final int HELD_MOST = 999;
    private static final int NOT_FRIENDS = 0;
    private static final int OPEN = 1;
    private static final int SECRET = 2;

    private static final int BENCHES = 5;
    private static final int SEATS = 8;
    private static final int SEATED_MOST = 6;
    /** 6 persons on 8 seats have 20160 at most. */
    private static final int ALL_SEATINGS = 1000000;
    private static final int NO_SEAT = -1;
    private static final int LEFT = -1;
    private static final int RIGHT = 1;

    private static final int BENCH = 0;
    private static final int PEW = 1;
    private static final int RING = 2;
    private static final int BOAT = 3;
    private static final int BED = 4;
    private static final int TABLE = 5;
    private static final int RAFT = 6;
    private static final int KINDS = 7;
    /** The kind that each kind is under. */
    private static final int[] UNDER = {-1, BENCH, BENCH, BENCH, PEW, RING, BOAT};
    /** How many seats on either side each kind looks at for the first who sits there. */
    private static final int[] REACH = {1, 2, 1, 1, SEATS, 2, 1};
    /** 1 for kinds whose last seat is ahead of the first. */
    private static final int[] ROUND = {0, 0, 1, 0, 0, 1, 0};
    /** No bench can list so much: 8 persons of 99, each at most 7 off the middle. */
    private static final int ANY_LISTS = 1000000;

    private static final int COME_MOST = 20;
    private static final int COURSE_MOST = 7;
    private static final int TAPE_MOST = 120;
    private static final int FEED_MOST = 4;
    private static final int SPOTS = 10;
    private static final int NOTHING = -1;
    private static final int SHEETS = 4;
    private static final int NUMBERS = 40;
    private static final int NOT_AS_MANY = 41;
    private static final int HOLDS_NOT = 42;

    private final Room room;
    private final Room kept;
    private boolean isKept;
    /** Where a text is tried before the room takes it. */
    private final Room draft;
    /** Where a bench is tried that is not so, or not yet. */
    private final Bench trial;
    private final Search search;
    private final int[] tape;
    private int tapeLength;
    private final TextReader reader;
    private final Sheet[] sheets;
    private final int[] findings;

    public NobodyBetween() {
        room = new Room();
        kept = new Room();
        isKept = false;
        draft = new Room();
        trial = new Bench();
        search = new Search(room.people);
        tape = new int[TAPE_MOST];
        tapeLength = 0;
        reader = new TextReader(tape, draft);
        findings = new int[FINDINGS];
        sheets = new Sheet[SHEETS];
        for (int s = 0; s < SHEETS; s++) {
            sheets[s] = new Sheet();
        }
    }

    // ---- persons

    public int friends(int one, int other, int how) {
        if (!arePair(one, other) || how < NOT_FRIENDS || how > SECRET) {
            return finding(BEYOND);
        }
        int was = room.people.bondOf(one, other);
        room.people.tie(one, other, how);
        return was;
    }

    public int are(int one, int other) {
        return arePair(one, other) ? room.people.bondOf(one, other) : finding(BEYOND);
    }

    public int weight(int person, int v) {
        if (!isPerson(person) || v < 1 || v > WEIGHT_MOST) {
            return finding(BEYOND);
        }
        int was = room.people.weights[person];
        room.people.weights[person] = v;
        return was;
    }

    public int over(boolean is) {
        int was = room.people.mealOver ? 1 : 0;
        room.people.mealOver = is;
        return was;
    }

    public int held(int v) {
        if (v < 0 || v > HELD_MOST) {
            return finding(BEYOND);
        }
        int was = room.people.heldAtMost;
        room.people.heldAtMost = v;
        return was;
    }

    public int circle(int person) {
        return isPerson(person) ? room.people.friendsOf(person) : finding(BEYOND);
    }

    // ---- benches

    public int bench(int kind, int seats) {
        if (!isKind(kind) || seats < 1 || seats > SEATS) {
            return finding(BEYOND);
        }
        if (room.benchCount >= BENCHES) {
            return finding(FULL);
        }
        return room.addBench(kind, seats);
    }

    public int benchOf(int bench, int what) {
        if (!isBench(bench)) {
            return finding(BEYOND);
        }
        Bench asked = room.benches[bench];
        switch (what) {
            case 0:
                return asked.kind;
            case 1:
                return asked.size;
            case 2:
                return asked.howManySit();
            case 3:
                return room.people.listsOf(asked);
            case 4:
                return room.people.holds(asked) ? 1 : 0;
            default:
                return finding(BEYOND);
        }
    }

    public int turn(int bench, int kind) {
        if (!isBench(bench) || !isKind(kind)) {
            return finding(BEYOND);
        }
        int was = room.benches[bench].kind;
        room.benches[bench].kind = kind;
        return was;
    }

    public int seat(int bench, int seat) {
        return isSeat(bench, seat) ? room.benches[bench].who[seat] : finding(BEYOND);
    }

    public int beside(int bench, int seat, int side) {
        if (!isSeat(bench, seat) || side < 0 || side > 1) {
            return finding(BEYOND);
        }
        return room.benches[bench].neighbour(seat, side == 0 ? LEFT : RIGHT);
    }

    public int wrong(int bench) {
        if (!isBench(bench)) {
            return finding(BEYOND);
        }
        Bench asked = room.benches[bench];
        int first = room.people.firstWrong(asked, 0, asked.size);
        return first == NO_SEAT ? finding(NONE) : first;
    }

    public int sit(int person, int bench, int seat) {
        if (!isPerson(person) || !isSeat(bench, seat)) {
            return finding(BEYOND);
        }
        if (room.isTakenByAnother(bench, seat, person)) {
            return finding(STATE);
        }
        room.putDown(person, bench, seat);
        return room.people.holds(room.benches[bench]) ? 1 : 0;
    }

    public int rise(int person) {
        if (!isPerson(person)) {
            return finding(BEYOND);
        }
        return room.lift(person) ? 1 : 0;
    }

    public int where(int person) {
        if (!isPerson(person)) {
            return finding(BEYOND);
        }
        int bench = room.benchWith(person);
        if (bench == NOTHING) {
            return finding(NONE);
        }
        return 10 * bench + room.benches[bench].seatOf(person);
    }

    // ---- asking

    public int may(int person, int bench) {
        if (!isPerson(person) || !isBench(bench)) {
            return finding(BEYOND);
        }
        return seatsToAskFor(person, bench);
    }

    public int kind(int person, int bench) {
        if (!isPerson(person) || !isBench(bench)) {
            return finding(BEYOND);
        }
        int open = seatsToAskFor(person, bench);
        int best = NO_SEAT;
        int bestOthers = -1;
        for (int seat = 0; seat < trial.size; seat++) {
            if (has(open, seat)) {
                trial.who[seat] = person;
                int others = othersWithSeat(person);
                trial.who[seat] = NOBODY;
                if (others > bestOthers) {
                    best = seat;
                    bestOthers = others;
                }
            }
        }
        return best == NO_SEAT ? finding(NONE) : best;
    }

    public int come(int bench, int n) {
        if (!isBench(bench) || n < 1 || n > COME_MOST) {
            return finding(BEYOND);
        }
        int satDown = 0;
        for (int i = 0; i < n; i++) {
            int person = room.draw() % PERSONS;
            if (!room.isSeated(person)) {
                int seat = leastOf(seatsToAskFor(person, bench));
                if (seat != NO_SEAT) {
                    room.putDown(person, bench, seat);
                    satDown++;
                }
            }
        }
        return satDown;
    }

    // ---- seatings

    public int seatings(int bench, int set) {
        if (!isBench(bench) || !isSet(set)) {
            return finding(BEYOND);
        }
        if (!fitsOn(bench, set)) {
            return finding(SIZE);
        }
        return search.countUpTo(ALL_SEATINGS, room.benches[bench], set);
    }

    public int lay(int bench, int set, int i) {
        if (!isBench(bench) || !isSet(set) || i < 0) {
            return finding(BEYOND);
        }
        if (!fitsOn(bench, set)) {
            return finding(SIZE);
        }
        if (!search.finds(i, room.benches[bench], set)) {
            return finding(NONE);
        }
        room.takeSeating(bench, set, search.row.who);
        return 1;
    }

    public int most(int bench, int set) {
        if (!isBench(bench) || !isSet(set)) {
            return finding(BEYOND);
        }
        if (Integer.bitCount(set) > SEATED_MOST) {
            return finding(SIZE);
        }
        for (int many = Integer.bitCount(set); many > 0; many--) {
            for (int subset = 1; subset <= set; subset++) {
                if ((subset & ~set) == 0 && Integer.bitCount(subset) == many
                        && search.finds(0, room.benches[bench], subset)) {
                    return subset;
                }
            }
        }
        return 0;
    }

    public int frees(int bench, int set) {
        if (!isBench(bench) || !isSet(set)) {
            return finding(BEYOND);
        }
        if (!fitsOn(bench, set)) {
            return finding(SIZE);
        }
        int best = NOTHING;
        int bestFree = -1;
        for (int one = 0; one < PERSONS; one++) {
            for (int other = one + 1; other < PERSONS; other++) {
                if (has(set, one) && has(set, other) && room.people.areFriends(one, other)) {
                    int free = seatingsAfterQuarrel(bench, set, one, other);
                    if (free > bestFree) {
                        best = 10 * one + other;
                        bestFree = free;
                    }
                }
            }
        }
        return best == NOTHING ? finding(NONE) : best;
    }

    public int often(int bench, int set, int person, int seat) {
        if (!isSeat(bench, seat) || !isSet(set) || !isPerson(person) || !has(set, person)) {
            return finding(BEYOND);
        }
        if (!fitsOn(bench, set)) {
            return finding(SIZE);
        }
        return search.countWith(person, seat, room.benches[bench], set);
    }

    public int needs(int bench, int set) {
        if (!isBench(bench) || !isSet(set)) {
            return finding(BEYOND);
        }
        if (Integer.bitCount(set) > SEATED_MOST) {
            return finding(SIZE);
        }
        for (int seats = 1; seats <= SEATS; seats++) {
            trial.clear(room.benches[bench].kind, seats);
            if (search.finds(0, trial, set)) {
                return seats;
            }
        }
        return finding(NONE);
    }

    // ---- what a seating is worth, and shows

    public int gain(int person) {
        if (!isPerson(person)) {
            return finding(BEYOND);
        }
        int bench = room.benchWith(person);
        if (bench == NOTHING) {
            return finding(STATE);
        }
        return room.people.gainOf(person, room.benches[bench]);
    }

    public int worth(int bench) {
        if (!isBench(bench)) {
            return finding(BEYOND);
        }
        int sum = 0;
        for (int person = 0; person < PERSONS; person++) {
            sum += room.people.gainOf(person, room.benches[bench]);
        }
        return sum;
    }

    public int exchange(int bench) {
        if (!isBench(bench)) {
            return finding(BEYOND);
        }
        for (int one = 0; one < PERSONS; one++) {
            for (int other = one + 1; other < PERSONS; other++) {
                if (bothGainByChange(room.benches[bench], one, other)) {
                    room.benches[bench].become(trial);
                    return 10 * one + other;
                }
            }
        }
        return finding(NONE);
    }

    public int shows(int bench) {
        if (!isBench(bench)) {
            return finding(BEYOND);
        }
        Bench asked = room.benches[bench];
        if (!room.people.holds(asked)) {
            return finding(STATE);
        }
        int pairs = 0;
        for (int one = 0; one < PERSONS; one++) {
            for (int other = one + 1; other < PERSONS; other++) {
                if (asked.hasBetween(one, other)) {
                    pairs++;
                }
            }
        }
        return pairs;
    }

    public int course(int bench, int n) {
        if (!isBench(bench) || n < 1 || n > COURSE_MOST) {
            return finding(BEYOND);
        }
        trial.becomeMovedOn(room.benches[bench], n);
        room.benches[bench].become(trial);
        return room.people.holds(trial) ? 1 : 0;
    }

    public int turns(int bench) {
        if (!isBench(bench)) {
            return finding(BEYOND);
        }
        Bench asked = room.benches[bench];
        int holding = 0;
        for (int n = 0; n < asked.size; n++) {
            trial.becomeMovedOn(asked, n);
            if (room.people.holds(trial)) {
                holding++;
            }
        }
        return holding;
    }

    public int seed(int v) {
        int was = room.z;
        room.z = v;
        return was;
    }

    // ---- texts

    public int feed(int bytes, int n) {
        if (n < 1 || n > FEED_MOST) {
            return finding(BEYOND);
        }
        if (tapeLength > TAPE_MOST - n) {
            return finding(FULL);
        }
        for (int i = n - 1; i >= 0; i--) {
            tape[tapeLength] = (bytes >>> (8 * i)) & 255;
            tapeLength++;
        }
        return tapeLength;
    }

    public int wipe() {
        int had = tapeLength;
        tapeLength = 0;
        return had;
    }

    public int text() {
        draft.become(room);
        int items = reader.take(tapeLength);
        tapeLength = 0;
        if (items >= 0) {
            room.become(draft);
        }
        return items;
    }

    // ---- spots, sheets

    public int hold(int spot, int bench) {
        if (!isSpot(spot) || (bench != NOTHING && !isBench(bench))) {
            return finding(BEYOND);
        }
        room.spots[spot] = bench;
        return 1;
    }

    public int as(int spot, int kind) {
        if (!isSpot(spot) || !isKind(kind)) {
            return finding(BEYOND);
        }
        int bench = room.spots[spot];
        if (!isBench(bench)) {
            return finding(MISSING);
        }
        return isUnder(room.benches[bench].kind, kind) ? bench : finding(KIND);
    }

    public int sheet(int s, int bits, int n) {
        if (!isSheet(s) || (bits != 0 && bits != 8 && bits != 16 && bits != 32)) {
            return finding(BEYOND);
        }
        if (n < 0) {
            return finding(SIZE);
        }
        if (n > NUMBERS) {
            return finding(BEYOND);
        }
        sheets[s].clear(bits, bits == 0 ? 0 : n);
        return sheets[s].length;
    }

    public int write(int s, int i, int v) {
        if (!isSheet(s)) {
            return finding(BEYOND);
        }
        if (sheets[s].isMissing()) {
            return finding(MISSING);
        }
        if (i < 0 || i >= sheets[s].length) {
            return finding(BEYOND);
        }
        sheets[s].put(i, v);
        return 1;
    }

    public int copy(int s, int from, int t, int to, int n) {
        if (!isSheet(s) || !isSheet(t)) {
            return finding(BEYOND);
        }
        Sheet source = sheets[s];
        Sheet target = sheets[t];
        if (source.isMissing() || target.isMissing()) {
            return finding(MISSING);
        }
        if (source.bits != target.bits) {
            return finding(KIND);
        }
        if (!source.hasPart(from, n) || !target.hasPart(to, n)) {
            return finding(BEYOND);
        }
        System.arraycopy(source.numbers, from, target.numbers, to, n);
        return n;
    }

    public int load(int s, int bench) {
        if (!isSheet(s)) {
            return finding(BEYOND);
        }
        if (sheets[s].isMissing()) {
            return finding(MISSING);
        }
        if (!isBench(bench)) {
            return finding(BEYOND);
        }
        int most = Math.min(sheets[s].length, room.benches[bench].size);
        int came = 0;
        while (came < most && takesToldSeat(bench, came, sheets[s].numbers[came])) {
            came++;
        }
        return came;
    }

    public int judge(int s, int bench) {
        if (!isSheet(s)) {
            return finding(BEYOND);
        }
        if (sheets[s].isMissing()) {
            return finding(MISSING);
        }
        if (!isBench(bench)) {
            return finding(BEYOND);
        }
        int bad = sheets[s].firstNoSeater();
        if (bad >= 0) {
            return 1 + bad;
        }
        Bench asked = room.benches[bench];
        if (sheets[s].length != asked.size) {
            return NOT_AS_MANY;
        }
        trial.clear(asked.kind, asked.size);
        for (int seat = 0; seat < asked.size; seat++) {
            int told = sheets[s].numbers[seat];
            trial.who[seat] = told == TOLD_NOBODY ? NOBODY : told;
        }
        return room.people.holds(trial) ? 0 : HOLDS_NOT;
    }

    // ---- images

    public int image() {
        kept.become(room);
        isKept = true;
        return 1;
    }

    public int undo() {
        if (!isKept) {
            return finding(NONE);
        }
        room.become(kept);
        return room.benchCount;
    }

    public int tear() {
        int was = isKept ? 1 : 0;
        isKept = false;
        return was;
    }

    public int count(int what) {
        switch (what) {
            case 0:
                return room.benchCount;
            case 1:
                return room.howManySit();
            case 2:
                return room.people.pairsThatCount();
            case 3:
                return room.people.secretPairs();
            case 4:
                return room.people.heldAtMost;
            case 5:
                return tapeLength;
            case 6:
                return room.z;
            case 7:
                return room.benchesThatHold();
            default:
                return finding(BEYOND);
        }
    }

    public int status(int which) {
        if (which < -1 || which >= FINDINGS) {
            return finding(BEYOND);
        }
        if (which >= 0) {
            return findings[which];
        }
        int all = 0;
        for (int i = 0; i < FINDINGS; i++) {
            all += findings[i];
        }
        return all;
    }

    // ---- what the calls share

    private int finding(int which) {
        findings[which]++;
        return LOW - which;
    }

    private static boolean isPerson(int person) {
        return person >= 0 && person < PERSONS;
    }

    private static boolean arePair(int one, int other) {
        return isPerson(one) && isPerson(other) && one != other;
    }

    private static boolean isKind(int kind) {
        return kind >= 0 && kind < KINDS;
    }

    private static boolean isSet(int set) {
        return set >= 0 && set <= ALL_PERSONS;
    }

    private static boolean isSpot(int spot) {
        return spot >= 0 && spot < SPOTS;
    }

    private static boolean isSheet(int s) {
        return s >= 0 && s < SHEETS;
    }

    private boolean isBench(int bench) {
        return bench >= 0 && bench < room.benchCount;
    }

    private boolean isSeat(int bench, int seat) {
        return isBench(bench) && seat >= 0 && seat < room.benches[bench].size;
    }

    private static boolean has(int set, int one) {
        return ((set >> one) & 1) != 0;
    }

    private static int leastOf(int seats) {
        for (int seat = 0; seat < SEATS; seat++) {
            if (has(seats, seat)) {
                return seat;
            }
        }
        return NO_SEAT;
    }

    private static boolean isUnder(int kind, int above) {
        int at = kind;
        for (int i = 0; i < KINDS && isKind(at); i++) {
            if (at == above) {
                return true;
            }
            at = UNDER[at];
        }
        return false;
    }

    private boolean fitsOn(int bench, int set) {
        int many = Integer.bitCount(set);
        return many <= room.benches[bench].size && many <= SEATED_MOST;
    }

    /** Leaves in trial the bench with the person risen from it. */
    private int seatsToAskFor(int person, int bench) {
        trial.become(room.benches[bench]);
        trial.empty(person);
        return room.people.seatsFor(person, trial);
    }

    private int othersWithSeat(int person) {
        int others = 0;
        for (int other = 0; other < PERSONS; other++) {
            if (other != person && !room.isSeated(other)
                    && room.people.seatsFor(other, trial) != 0) {
                others++;
            }
        }
        return others;
    }

    private int seatingsAfterQuarrel(int bench, int set, int one, int other) {
        int was = room.people.bondOf(one, other);
        room.people.tie(one, other, NOT_FRIENDS);
        int free = search.countUpTo(ALL_SEATINGS, room.benches[bench], set);
        room.people.tie(one, other, was);
        return free;
    }

    /** Leaves in trial the bench as it is after the change. */
    private boolean bothGainByChange(Bench bench, int one, int other) {
        int seatOfOne = bench.seatOf(one);
        int seatOfOther = bench.seatOf(other);
        if (seatOfOne == NO_SEAT || seatOfOther == NO_SEAT) {
            return false;
        }
        trial.become(bench);
        trial.who[seatOfOne] = other;
        trial.who[seatOfOther] = one;
        return room.people.gainOf(one, trial) > room.people.gainOf(one, bench)
                && room.people.gainOf(other, trial) > room.people.gainOf(other, bench)
                && room.people.holds(trial);
    }

    private boolean takesToldSeat(int bench, int seat, int told) {
        if (told == TOLD_NOBODY) {
            room.benches[bench].who[seat] = NOBODY;
            return true;
        }
        if (!isPerson(told) || room.isTakenByAnother(bench, seat, told)) {
            return false;
        }
        room.putDown(told, bench, seat);
        return true;
    }

    /** Seats in a row, of one kind, and who sits on them. */
    private static final class Bench {
        int kind = BENCH;
        int size = 1;
        final int[] who = new int[SEATS];

        Bench() {
            Arrays.fill(who, NOBODY);
        }

        void clear(int newKind, int newSize) {
            kind = newKind;
            size = newSize;
            Arrays.fill(who, NOBODY);
        }

        void become(Bench other) {
            kind = other.kind;
            size = other.size;
            System.arraycopy(other.who, 0, who, 0, SEATS);
        }

        void becomeMovedOn(Bench other, int n) {
            clear(other.kind, other.size);
            for (int seat = 0; seat < size; seat++) {
                who[(seat + n) % size] = other.who[seat];
            }
        }

        void empty(int person) {
            int seat = seatOf(person);
            if (seat != NO_SEAT) {
                who[seat] = NOBODY;
            }
        }

        int seatOf(int person) {
            for (int seat = 0; seat < size; seat++) {
                if (who[seat] == person) {
                    return seat;
                }
            }
            return NO_SEAT;
        }

        int howManySit() {
            int many = 0;
            for (int seat = 0; seat < size; seat++) {
                if (who[seat] != NOBODY) {
                    many++;
                }
            }
            return many;
        }

        /** How far a seat is off the middle, in half seats. */
        int armOf(int seat) {
            return 2 * seat - (size - 1);
        }

        /** The first who sits on one of the next seats on a side, as far as the kind reaches. */
        int neighbour(int seat, int side) {
            int reach = REACH[kind];
            boolean round = ROUND[kind] == 1;
            int at = seat;
            for (int looked = 0; looked < reach; looked++) {
                at += side;
                if (round && at < 0) {
                    at = size - 1;
                } else if (round && at >= size) {
                    at = 0;
                }
                if (at < 0 || at >= size || at == seat) {
                    return NOBODY;
                }
                if (who[at] != NOBODY) {
                    return who[at];
                }
            }
            return NOBODY;
        }

        /** As neighbour() of a bench of kind 0, whatever the kind. */
        int nextSeated(int seat, int side) {
            int at = seat + side;
            return at < 0 || at >= size ? NOBODY : who[at];
        }

        boolean hasBetween(int one, int other) {
            for (int seat = 0; seat < size; seat++) {
                if (who[seat] != NOBODY) {
                    int left = neighbour(seat, LEFT);
                    int right = neighbour(seat, RIGHT);
                    if ((left == one && right == other) || (left == other && right == one)) {
                        return true;
                    }
                }
            }
            return false;
        }
    }

    /** What the persons are to one another, and what they weigh. */
    private static final class People {
        final int[] bonds = new int[PERSONS * PERSONS];
        final int[] weights = new int[PERSONS];
        boolean mealOver = false;
        int heldAtMost = 50;

        People() {
            Arrays.fill(weights, 10);
        }

        void become(People other) {
            System.arraycopy(other.bonds, 0, bonds, 0, PERSONS * PERSONS);
            System.arraycopy(other.weights, 0, weights, 0, PERSONS);
            mealOver = other.mealOver;
            heldAtMost = other.heldAtMost;
        }

        int bondOf(int one, int other) {
            return bonds[PERSONS * one + other];
        }

        void tie(int one, int other, int how) {
            bonds[PERSONS * one + other] = how;
            bonds[PERSONS * other + one] = how;
        }

        /** As they count now; nobody is nobody's friend, and no one is one's own. */
        boolean areFriends(int one, int other) {
            if (one == NOBODY || other == NOBODY) {
                return false;
            }
            int bond = bondOf(one, other);
            return bond == OPEN || (bond == SECRET && mealOver);
        }

        int friendsOf(int person) {
            int set = 0;
            for (int other = 0; other < PERSONS; other++) {
                if (areFriends(person, other)) {
                    set |= 1 << other;
                }
            }
            return set;
        }

        int pairsThatCount() {
            int sum = 0;
            for (int person = 0; person < PERSONS; person++) {
                sum += Integer.bitCount(friendsOf(person));
            }
            return sum / 2;
        }

        int secretPairs() {
            int sum = 0;
            for (int i = 0; i < PERSONS * PERSONS; i++) {
                if (bonds[i] == SECRET) {
                    sum++;
                }
            }
            return sum / 2;
        }

        /** The first one from a seat on, ahead of another one. */
        int firstWrong(Bench bench, int from, int to) {
            for (int seat = from; seat < to; seat++) {
                if (bench.who[seat] != NOBODY
                        && areFriends(bench.neighbour(seat, LEFT), bench.neighbour(seat, RIGHT))) {
                    return seat;
                }
            }
            return NO_SEAT;
        }

        int listsOf(Bench bench) {
            int sum = 0;
            for (int seat = 0; seat < bench.size; seat++) {
                if (bench.who[seat] != NOBODY) {
                    sum += weights[bench.who[seat]] * bench.armOf(seat);
                }
            }
            return sum;
        }

        int listsAtMost(int kind) {
            if (kind == BOAT) {
                return heldAtMost;
            }
            return kind == RAFT ? 2 * heldAtMost : ANY_LISTS;
        }

        boolean holds(Bench bench) {
            return Math.abs(listsOf(bench)) <= listsAtMost(bench.kind)
                    && firstWrong(bench, 0, bench.size) == NO_SEAT;
        }

        /** 0 for one who doesn't sit there. Secret friends always count here. */
        int gainOf(int person, Bench bench) {
            int seat = bench.seatOf(person);
            if (seat == NO_SEAT) {
                return 0;
            }
            return gainBeside(person, bench.nextSeated(seat, LEFT))
                    + gainBeside(person, bench.nextSeated(seat, RIGHT));
        }

        private int gainBeside(int person, int other) {
            return other != NOBODY && bondOf(person, other) != NOT_FRIENDS ? 1 : 0;
        }

        /** Empty seats on which one who doesn't sit there may sit; the bench is left as it was. */
        int seatsFor(int person, Bench bench) {
            int set = 0;
            for (int seat = 0; seat < bench.size; seat++) {
                if (bench.who[seat] == NOBODY) {
                    bench.who[seat] = person;
                    if (holds(bench)) {
                        set |= 1 << seat;
                    }
                    bench.who[seat] = NOBODY;
                }
            }
            return set;
        }
    }

    /** All that an image keeps. */
    private static final class Room {
        final People people = new People();
        final Bench[] benches = new Bench[BENCHES];
        int benchCount = 0;
        final int[] spots = new int[SPOTS];
        int z = 1;

        Room() {
            for (int bench = 0; bench < BENCHES; bench++) {
                benches[bench] = new Bench();
            }
            Arrays.fill(spots, NOTHING);
        }

        void become(Room other) {
            people.become(other.people);
            for (int bench = 0; bench < BENCHES; bench++) {
                benches[bench].become(other.benches[bench]);
            }
            benchCount = other.benchCount;
            System.arraycopy(other.spots, 0, spots, 0, SPOTS);
            z = other.z;
        }

        /** Only while there are fewer than BENCHES. */
        int addBench(int kind, int size) {
            int bench = benchCount;
            benches[bench].clear(kind, size);
            benchCount++;
            return bench;
        }

        int benchWith(int person) {
            for (int bench = 0; bench < benchCount; bench++) {
                if (benches[bench].seatOf(person) != NO_SEAT) {
                    return bench;
                }
            }
            return NOTHING;
        }

        boolean isSeated(int person) {
            return benchWith(person) != NOTHING;
        }

        boolean isTakenByAnother(int bench, int seat, int person) {
            int sitter = benches[bench].who[seat];
            return sitter != NOBODY && sitter != person;
        }

        boolean lift(int person) {
            int bench = benchWith(person);
            if (bench == NOTHING) {
                return false;
            }
            benches[bench].empty(person);
            return true;
        }

        void putDown(int person, int bench, int seat) {
            lift(person);
            benches[bench].who[seat] = person;
        }

        void takeSeating(int bench, int set, int[] row) {
            for (int person = 0; person < PERSONS; person++) {
                if (has(set, person)) {
                    lift(person);
                }
            }
            System.arraycopy(row, 0, benches[bench].who, 0, benches[bench].size);
        }

        int howManySit() {
            int many = 0;
            for (int bench = 0; bench < benchCount; bench++) {
                many += benches[bench].howManySit();
            }
            return many;
        }

        int benchesThatHold() {
            int many = 0;
            for (int bench = 0; bench < benchCount; bench++) {
                if (people.holds(benches[bench])) {
                    many++;
                }
            }
            return many;
        }

        int draw() {
            z = z * 1103515245 + 12345;
            return z >>> 8;
        }
    }

    /** Goes through the seatings of a set, in their order. */
    private static final class Search {
        /** The seating found last, when a search ended early. */
        final Bench row = new Bench();
        private final People people;
        /** For each seat, and one behind the last, the nearest one ahead that is taken. */
        private final int[] takenAhead = new int[SEATS + 1];
        private int reach = 1;
        private int listsAtMost = 0;
        private int found = 0;
        private int enough = 0;
        private int pinnedPerson = NOBODY;
        private int pinnedSeat = NO_SEAT;

        Search(People of) {
            people = of;
            takenAhead[0] = NO_SEAT;
        }

        /** How many there are on a bench like this one; the search ends when there are enough. */
        int countUpTo(int atMost, Bench like, int set) {
            row.clear(like.kind, like.size);
            reach = REACH[like.kind];
            listsAtMost = people.listsAtMost(like.kind);
            found = 0;
            enough = atMost;
            int spare = row.size - Integer.bitCount(set);
            if (spare >= 0) {
                fill(0, set, spare, 0, weightOf(set));
            }
            return found;
        }

        int countWith(int person, int seat, Bench like, int set) {
            pinnedPerson = person;
            pinnedSeat = seat;
            int many = countUpTo(ALL_SEATINGS, like, set);
            pinnedSeat = NO_SEAT;
            return many;
        }

        /** Whether there is the i-th one; row is it then. */
        boolean finds(int i, Bench like, int set) {
            return i < ALL_SEATINGS && countUpTo(i + 1, like, set) > i;
        }

        private int weightOf(int set) {
            int sum = 0;
            for (int person = 0; person < PERSONS; person++) {
                if (has(set, person)) {
                    sum += people.weights[person];
                }
            }
            return sum;
        }

        /**
         * Fills this seat and those behind it: with the rest, who weigh load, and spare many empty
         * ones. What sits ahead lists as told.
         */
        private void fill(int seat, int rest, int spare, int lists, int load) {
            if (!canBalance(seat, lists, load)) {
                return;
            }
            if (seat >= row.size) {
                if (closesRound()) {
                    found++;
                }
                return;
            }
            if (spare > 0 && pinAllows(seat, NOBODY)) {
                row.who[seat] = NOBODY;
                takenAhead[seat + 1] = takenAhead[seat];
                fill(seat + 1, rest, spare - 1, lists, load);
            }
            for (int person = 0; person < PERSONS && found < enough; person++) {
                if (((rest >> person) & 1) != 0 && pinAllows(seat, person)
                        && leavesNobodyBetween(seat, person)) {
                    setDown(person, seat, rest, spare, lists, load);
                }
            }
        }

        private void setDown(int person, int seat, int rest, int spare, int lists, int load) {
            row.who[seat] = person;
            takenAhead[seat + 1] = seat;
            int weight = people.weights[person];
            fill(seat + 1, rest & ~(1 << person), spare,
                    lists + weight * row.armOf(seat), load - weight);
        }

        /** Whoever is left sits between this seat and the last one, which bounds what they add. */
        private boolean canBalance(int seat, int lists, int load) {
            return listsAtMost == ANY_LISTS
                    || (lists + load * row.armOf(seat) <= listsAtMost
                    && lists + load * row.armOf(row.size - 1) >= -listsAtMost);
        }

        private boolean pinAllows(int seat, int person) {
            return seat != pinnedSeat || person == pinnedPerson;
        }

        /**
         * Whether one who sits down here is no friend of the next but one ahead. All that is ahead
         * is settled; what goes round the end can be looked at only when the row is full.
         */
        private boolean leavesNobodyBetween(int seat, int person) {
            int between = takenAhead[seat];
            if (between == NO_SEAT || seat - between > reach) {
                return true;
            }
            int ahead = takenAhead[between];
            return ahead == NO_SEAT || between - ahead > reach
                    || !people.areFriends(row.who[ahead], person);
        }

        /** Only of seats so near the ends is a side round the end. */
        private boolean closesRound() {
            return ROUND[row.kind] == 0
                    || (people.firstWrong(row, 0, Math.min(reach, row.size)) == NO_SEAT
                    && people.firstWrong(row, Math.max(row.size - reach, 0), row.size) == NO_SEAT);
        }
    }

    /** Reads a text, token by token, into a room. */
    private static final class TextReader {
        private static final int END = 0;
        private static final int WORD = 1;
        private static final int NUMBER = 2;
        private static final int SEMICOLON = 3;
        private static final int UNKNOWN = 4;
        /** What a number above 999 is taken for, however many digits it has. */
        private static final int ABOVE_NUMBERS = 1000;

        private final int[] bytes;
        private final Room into;
        private int length = 0;
        /** The token that is looked at: what it is, where it begins and ends, a number's value. */
        private int token = END;
        private int start = 0;
        private int end = 0;
        private int value = 0;

        TextReader(int[] tape, Room target) {
            bytes = tape;
            into = target;
        }

        /** How many items the text has, or -1 less its fault: the room is of no use then. */
        int take(int tapeLength) {
            length = tapeLength;
            end = 0;
            for (int items = 1; items <= TAPE_MOST; items++) {
                step();
                if (!takeItem()) {
                    return -1 - start;
                }
                if (token == END) {
                    return items;
                }
                if (token != SEMICOLON) {
                    return -1 - start;
                }
            }
            return -1 - start;
        }

        private void step() {
            start = end;
            while (start < length && bytes[start] == ' ') {
                start++;
            }
            end = start;
            if (start >= length) {
                token = END;
            } else if (isLetter(bytes[start])) {
                token = WORD;
                while (end < length && isLetter(bytes[end])) {
                    end++;
                }
            } else if (isDigit(bytes[start])) {
                token = NUMBER;
                value = 0;
                while (end < length && isDigit(bytes[end])) {
                    value = Math.min(10 * value + bytes[end] - '0', ABOVE_NUMBERS);
                    end++;
                }
            } else {
                token = bytes[start] == ';' ? SEMICOLON : UNKNOWN;
                end++;
            }
        }

        private static boolean isLetter(int b) {
            return b >= 'a' && b <= 'z';
        }

        private static boolean isDigit(int b) {
            return b >= '0' && b <= '9';
        }

        private boolean isWord(String word) {
            if (token != WORD || word.length() != end - start) {
                return false;
            }
            for (int i = 0; i < word.length(); i++) {
                if (bytes[start + i] != word.charAt(i)) {
                    return false;
                }
            }
            return true;
        }

        private boolean isNumber(int least, int greatest) {
            return token == NUMBER && value >= least && value <= greatest;
        }

        /** Each of these stops at the token that can't stand there, or behind the item. */
        private boolean takeItem() {
            if (isWord("friends")) {
                return takeBond(OPEN);
            }
            if (isWord("secret")) {
                return takeBond(SECRET);
            }
            if (isWord("weight")) {
                return takeWeight();
            }
            if (isWord("held")) {
                return takeHeld();
            }
            for (int kind = 0; kind < KINDS; kind++) {
                if (isWord(wordOf(kind))) {
                    return takeBench(kind);
                }
            }
            return false;
        }

        private static String wordOf(int kind) {
            switch (kind) {
                case BENCH:
                    return "bench";
                case PEW:
                    return "pew";
                case RING:
                    return "ring";
                case BOAT:
                    return "boat";
                case BED:
                    return "bed";
                case TABLE:
                    return "table";
                default:
                    return "raft";
            }
        }

        private boolean takeBond(int how) {
            step();
            if (!isNumber(0, PERSONS - 1)) {
                return false;
            }
            int one = value;
            step();
            if (!isNumber(0, PERSONS - 1) || value == one) {
                return false;
            }
            into.people.tie(one, value, how);
            step();
            return true;
        }

        private boolean takeWeight() {
            step();
            if (!isNumber(0, PERSONS - 1)) {
                return false;
            }
            int person = value;
            step();
            if (!isNumber(1, WEIGHT_MOST)) {
                return false;
            }
            into.people.weights[person] = value;
            step();
            return true;
        }

        private boolean takeHeld() {
            step();
            if (!isNumber(0, HELD_MOST)) {
                return false;
            }
            into.people.heldAtMost = value;
            step();
            return true;
        }

        private boolean takeBench(int kind) {
            if (into.benchCount >= BENCHES) {
                return false;
            }
            step();
            if (!isWord("seats")) {
                return false;
            }
            step();
            if (!isNumber(1, SEATS)) {
                return false;
            }
            int bench = into.addBench(kind, value);
            step();
            return !isWord("sits") || takeSitters(bench);
        }

        private boolean takeSitters(int bench) {
            step();
            if (token != NUMBER) {
                return false;
            }
            for (int seat = 0; seat < into.benches[bench].size && token == NUMBER; seat++) {
                if (!isNumber(0, TOLD_NOBODY)) {
                    return false;
                }
                if (value != TOLD_NOBODY) {
                    if (into.benchWith(value) != NOTHING) {
                        return false;
                    }
                    into.benches[bench].who[seat] = value;
                }
                step();
            }
            return true;
        }
    }

    /** A row of numbers of so many bits; of 0 bits it is missing. */
    private static final class Sheet {
        int bits = 0;
        int length = 0;
        final int[] numbers = new int[NUMBERS];

        Sheet() {
        }

        void clear(int newBits, int newLength) {
            bits = newBits;
            length = newLength;
            Arrays.fill(numbers, 0);
        }

        boolean isMissing() {
            return bits == 0;
        }

        void put(int i, int v) {
            if (bits == 8) {
                numbers[i] = (byte) v;
            } else {
                numbers[i] = bits == 16 ? (short) v : v;
            }
        }

        boolean hasPart(int from, int n) {
            return from >= 0 && n >= 0 && from <= length - n;
        }

        /** The place of the first that is no person nor 8, or a person for the second time. */
        int firstNoSeater() {
            int seen = 0;
            for (int i = 0; i < length; i++) {
                int told = numbers[i];
                if (told != TOLD_NOBODY) {
                    if (!isPerson(told) || has(seen, told)) {
                        return i;
                    }
                    seen |= 1 << told;
                }
            }
            return -1;
        }
    }
}
