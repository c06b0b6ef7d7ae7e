/** For each promise: ordinary inputs, the edges that the document names, and wrong inputs. */
public final class PromiseTest {
    private static final int BEYOND = -1000001;
    private static final int FULL = -1000002;
    private static final int KIND = -1000003;
    private static final int NONE = -1000004;
    private static final int STATE = -1000005;
    private static final int MISSING = -1000006;
    private static final int SIZE = -1000007;

    private static final int BENCH = 0;
    private static final int PEW = 1;
    private static final int RING = 2;
    private static final int BOAT = 3;
    private static final int BED = 4;
    private static final int TABLE = 5;
    private static final int RAFT = 6;

    private static int asked = 0;
    private static int wrong = 0;

    private static void due(int promise, String what, int got, int want) {
        asked++;
        if (got != want) {
            wrong++;
            System.out.println("promise " + promise + ": " + what + " answered " + got + ", due is " + want);
        }
    }

    public static void main(String[] args) {
        newObject();
        bonds();
        weightsAndHeld();
        circles();
        benches();
        benchOf();
        turns();
        besides();
        wrongSeats();
        sitting();
        asking();
        kinds();
        coming();
        seatings();
        seatingsOfBoats();
        laying();
        mostOfSet();
        quarrels();
        often();
        needs();
        gains();
        exchanges();
        shows();
        courses();
        tape();
        texts();
        faultsOfItems();
        faultsOfBenches();
        spots();
        sheets();
        copies();
        loads();
        judges();
        images();
        counts();
        statuses();
        System.out.println(asked - wrong + " answers as due, " + wrong + " not");
        if (wrong != 0) {
            System.exit(1);
        }
    }

    private static NobodyBetween with(String text) {
        NobodyBetween x = new NobodyBetween();
        int items = tell(x, text);
        if (items < 1) {
            throw new IllegalStateException("text of a test has a fault: " + text);
        }
        return x;
    }

    private static void feed(NobodyBetween x, String text) {
        for (int i = 0; i < text.length(); i++) {
            x.feed(text.charAt(i), 1);
        }
    }

    private static int tell(NobodyBetween x, String text) {
        feed(x, text);
        return x.text();
    }

    private static String row(NobodyBetween x, int bench) {
        StringBuilder told = new StringBuilder();
        for (int seat = 0; seat < x.benchOf(bench, 1); seat++) {
            int who = x.seat(bench, seat);
            told.append(who < 0 ? "." : String.valueOf(who));
        }
        return told.toString();
    }

    private static void dueRow(int promise, NobodyBetween x, int bench, String want) {
        asked++;
        String got = row(x, bench);
        if (!got.equals(want)) {
            wrong++;
            System.out.println("promise " + promise + ": bench " + bench + " is " + got + ", due is " + want);
        }
    }

    private static void newObject() {
        NobodyBetween x = new NobodyBetween();
        int[] counts = {0, 0, 0, 0, 50, 0, 1, 0};
        for (int what = 0; what < 8; what++) {
            due(1, "count(" + what + ")", x.count(what), counts[what]);
        }
        due(1, "status(-1)", x.status(-1), 0);
        for (int p = 0; p < 8; p++) {
            due(1, "weight", x.weight(p, 10), 10);
            due(1, "circle", x.circle(p), 0);
            due(1, "where", x.where(p), NONE);
        }
        due(1, "over", x.over(false), 0);
        for (int s = 0; s < 10; s++) {
            due(1, "as", x.as(s, 0), MISSING);
        }
        for (int s = 0; s < 4; s++) {
            due(1, "write", x.write(s, 0, 0), MISSING);
        }
        due(1, "undo", x.undo(), NONE);
        due(1, "tear", x.tear(), 0);
        due(1, "text", x.text(), -1);
    }

    private static void bonds() {
        NobodyBetween x = new NobodyBetween();
        due(2, "friends(1, 6, 1)", x.friends(1, 6, 1), 0);
        due(3, "are(6, 1)", x.are(6, 1), 1);
        due(2, "friends(6, 1, 2)", x.friends(6, 1, 2), 1);
        due(3, "are(1, 6)", x.are(1, 6), 2);
        due(2, "friends(1, 6, 0)", x.friends(1, 6, 0), 2);
        due(3, "are(1, 6)", x.are(1, 6), 0);
        due(3, "are(0, 7)", x.are(0, 7), 0);
        due(2, "friends(3, 3, 1)", x.friends(3, 3, 1), BEYOND);
        due(2, "friends(-1, 3, 1)", x.friends(-1, 3, 1), BEYOND);
        due(2, "friends(3, 8, 1)", x.friends(3, 8, 1), BEYOND);
        due(2, "friends(0, 1, -1)", x.friends(0, 1, -1), BEYOND);
        due(2, "friends(0, 1, 3)", x.friends(0, 1, 3), BEYOND);
        due(3, "are(5, 5)", x.are(5, 5), BEYOND);
        due(3, "are(8, 5)", x.are(8, 5), BEYOND);
        due(3, "are(5, -1)", x.are(5, -1), BEYOND);
        due(2, "nothing changed", x.count(2) + x.count(3), 0);
    }

    private static void weightsAndHeld() {
        NobodyBetween x = new NobodyBetween();
        due(4, "weight(7, 99)", x.weight(7, 99), 10);
        due(4, "weight(7, 1)", x.weight(7, 1), 99);
        due(4, "weight(7, 0)", x.weight(7, 0), BEYOND);
        due(4, "weight(7, 100)", x.weight(7, 100), BEYOND);
        due(4, "weight(-1, 5)", x.weight(-1, 5), BEYOND);
        due(4, "weight(8, 5)", x.weight(8, 5), BEYOND);
        due(4, "weight(7, 5)", x.weight(7, 5), 1);
        due(5, "over(true)", x.over(true), 0);
        due(5, "over(true)", x.over(true), 1);
        due(5, "over(false)", x.over(false), 1);
        due(5, "over(false)", x.over(false), 0);
        due(6, "held(999)", x.held(999), 50);
        due(6, "held(0)", x.held(0), 999);
        due(6, "held(-1)", x.held(-1), BEYOND);
        due(6, "held(1000)", x.held(1000), BEYOND);
        due(6, "held(3)", x.held(3), 0);
    }

    private static void circles() {
        NobodyBetween x = with("friends 0 3;secret 0 7;friends 3 5");
        due(7, "circle(0)", x.circle(0), 8);
        due(7, "circle(3)", x.circle(3), 33);
        due(7, "circle(7)", x.circle(7), 0);
        x.over(true);
        due(7, "circle(0) over", x.circle(0), 136);
        due(7, "circle(7) over", x.circle(7), 1);
        due(7, "circle(-1)", x.circle(-1), BEYOND);
        due(7, "circle(8)", x.circle(8), BEYOND);
    }

    private static void benches() {
        NobodyBetween x = new NobodyBetween();
        due(8, "bench(-1, 1)", x.bench(-1, 1), BEYOND);
        due(8, "bench(7, 1)", x.bench(7, 1), BEYOND);
        due(8, "bench(0, 0)", x.bench(0, 0), BEYOND);
        due(8, "bench(0, 9)", x.bench(0, 9), BEYOND);
        for (int i = 0; i < 5; i++) {
            due(8, "bench", x.bench(i, 8 - i), i);
        }
        due(8, "a 6th", x.bench(6, 1), FULL);
        due(8, "BEYOND is asked first", x.bench(6, 0), BEYOND);
        due(8, "seats are empty", x.count(1), 0);
        due(8, "seat(0, 7)", x.seat(0, 7), -1);
        due(8, "seat(4, 4)", x.seat(4, 4), BEYOND);
    }

    private static void benchOf() {
        NobodyBetween x = with("weight 1 7;boat seats 4 sits 0 8 8 1;raft seats 4;held 8");
        due(9, "kind", x.benchOf(0, 0), BOAT);
        due(9, "seats", x.benchOf(0, 1), 4);
        due(9, "sit there", x.benchOf(0, 2), 2);
        due(9, "lists: 10 * -3 + 7 * 3", x.benchOf(0, 3), -9);
        due(9, "holds", x.benchOf(0, 4), 0);
        x.held(9);
        due(9, "holds", x.benchOf(0, 4), 1);
        x.held(4);
        x.turn(0, RAFT);
        due(9, "raft: twice 4", x.benchOf(0, 4), 0);
        x.held(5);
        due(9, "raft: twice 5", x.benchOf(0, 4), 1);
        x.held(0);
        for (int kind : new int[] {BENCH, PEW, RING, BED, TABLE}) {
            x.turn(0, kind);
            due(9, "others may list", x.benchOf(0, 4), 1);
            due(9, "lists all the same", x.benchOf(0, 3), -9);
        }
        due(9, "what -1", x.benchOf(0, -1), BEYOND);
        due(9, "what 5", x.benchOf(0, 5), BEYOND);
        due(9, "bench 2", x.benchOf(2, 0), BEYOND);
        due(9, "bench -1", x.benchOf(-1, 0), BEYOND);
    }

    private static void turns() {
        NobodyBetween x = with("ring seats 3 sits 0 1 2");
        due(10, "turn(0, 6)", x.turn(0, 6), RING);
        due(10, "turn(0, 6)", x.turn(0, 6), RAFT);
        due(10, "turn(0, 0)", x.turn(0, 0), RAFT);
        due(10, "turn(0, -1)", x.turn(0, -1), BEYOND);
        due(10, "turn(0, 7)", x.turn(0, 7), BEYOND);
        due(10, "turn(1, 0)", x.turn(1, 0), BEYOND);
        dueRow(10, x, 0, "012");
        due(11, "seat(0, 2)", x.seat(0, 2), 2);
        due(11, "seat(0, 3)", x.seat(0, 3), BEYOND);
        due(11, "seat(0, -1)", x.seat(0, -1), BEYOND);
        due(11, "seat(1, 0)", x.seat(1, 0), BEYOND);
        due(11, "seat(-1, 0)", x.seat(-1, 0), BEYOND);
        x.rise(1);
        due(11, "seat(0, 1)", x.seat(0, 1), -1);
    }

    /** Left and right of each seat of one row, for each kind. */
    private static void besides() {
        NobodyBetween x = with("bench seats 7 sits 0 8 1 8 8 2");
        dueSides(x, BENCH, new int[] {-1, 0, -1, 1, -1, -1, 2}, new int[] {-1, 1, -1, -1, 2, -1, -1});
        dueSides(x, BOAT, new int[] {-1, 0, -1, 1, -1, -1, 2}, new int[] {-1, 1, -1, -1, 2, -1, -1});
        dueSides(x, RAFT, new int[] {-1, 0, -1, 1, -1, -1, 2}, new int[] {-1, 1, -1, -1, 2, -1, -1});
        dueSides(x, PEW, new int[] {-1, 0, 0, 1, 1, -1, 2}, new int[] {1, 1, -1, 2, 2, -1, -1});
        dueSides(x, BED, new int[] {-1, 0, 0, 1, 1, 1, 2}, new int[] {1, 1, 2, 2, 2, -1, -1});
        dueSides(x, RING, new int[] {-1, 0, -1, 1, -1, -1, 2}, new int[] {-1, 1, -1, -1, 2, -1, 0});
        dueSides(x, TABLE, new int[] {2, 0, 0, 1, 1, -1, 2}, new int[] {1, 1, -1, 2, 2, 0, 0});
        due(12, "side -1", x.beside(0, 0, -1), BEYOND);
        due(12, "side 2", x.beside(0, 0, 2), BEYOND);
        due(12, "seat 7", x.beside(0, 7, 0), BEYOND);
        due(12, "seat -1", x.beside(0, -1, 0), BEYOND);
        due(12, "bench 1", x.beside(1, 0, 0), BEYOND);
        for (int kind = 0; kind < 7; kind++) {
            NobodyBetween one = new NobodyBetween();
            one.bench(kind, 1);
            one.sit(4, 0, 0);
            due(12, "never beside itself", one.beside(0, 0, 0), -1);
            due(12, "never beside itself", one.beside(0, 0, 1), -1);
        }
        NobodyBetween two = with("table seats 2 sits 4;ring seats 2 sits 5 6;friends 5 6");
        due(12, "table of 2: round to itself", two.beside(0, 0, 0), -1);
        due(12, "table of 2", two.beside(0, 1, 0), 4);
        due(12, "table of 2", two.beside(0, 1, 1), 4);
        due(12, "ring of 2: the same one on both sides", two.beside(1, 0, 0), 6);
        due(12, "ring of 2", two.beside(1, 0, 1), 6);
        due(13, "one on both sides is no pair", two.wrong(1), NONE);
    }

    private static void dueSides(NobodyBetween x, int kind, int[] left, int[] right) {
        x.turn(0, kind);
        for (int seat = 0; seat < left.length; seat++) {
            due(12, "left of " + seat + " on kind " + kind, x.beside(0, seat, 0), left[seat]);
            due(12, "right of " + seat + " on kind " + kind, x.beside(0, seat, 1), right[seat]);
        }
    }

    private static void wrongSeats() {
        NobodyBetween x = with("bench seats 6 sits 0 8 1 3 2;secret 1 2");
        due(13, "secret, not over", x.wrong(0), NONE);
        x.over(true);
        due(13, "secret, over", x.wrong(0), 3);
        x.friends(0, 3, 1);
        due(13, "0 and 3 are two seats off", x.wrong(0), 3);
        x.turn(0, PEW);
        due(13, "the first one", x.wrong(0), 2);
        x.rise(1);
        due(13, "nobody sits there", x.wrong(0), NONE);
        due(13, "wrong(1)", x.wrong(1), BEYOND);
        due(13, "wrong(-1)", x.wrong(-1), BEYOND);
        NobodyBetween ring = with("ring seats 4 sits 0 1 8 2;friends 1 2");
        due(13, "round", ring.wrong(0), 0);
        ring.turn(0, BENCH);
        due(13, "not round", ring.wrong(0), NONE);
    }

    private static void sitting() {
        NobodyBetween x = with("bench seats 3;friends 0 2;pew seats 2");
        due(14, "sit(0, 0, 0)", x.sit(0, 0, 0), 1);
        due(14, "sit(1, 0, 1)", x.sit(1, 0, 1), 1);
        due(14, "sit(2, 0, 2)", x.sit(2, 0, 2), 0);
        due(14, "another one", x.sit(3, 0, 2), STATE);
        due(14, "another one who sits", x.sit(1, 0, 2), STATE);
        dueRow(14, x, 0, "012");
        due(14, "the same seat", x.sit(2, 0, 2), 0);
        due(14, "to another bench", x.sit(1, 1, 1), 1);
        dueRow(14, x, 0, "0.2");
        dueRow(14, x, 1, ".1");
        due(14, "sit(8, 0, 1)", x.sit(8, 0, 1), BEYOND);
        due(14, "sit(-1, 0, 1)", x.sit(-1, 0, 1), BEYOND);
        due(14, "sit(3, 2, 0)", x.sit(3, 2, 0), BEYOND);
        due(14, "sit(3, 1, 2)", x.sit(3, 1, 2), BEYOND);
        due(14, "sit(3, 1, -1)", x.sit(3, 1, -1), BEYOND);
        due(16, "where(1)", x.where(1), 11);
        due(16, "where(2)", x.where(2), 2);
        due(16, "where(3)", x.where(3), NONE);
        due(16, "where(8)", x.where(8), BEYOND);
        due(16, "where(-1)", x.where(-1), BEYOND);
        due(15, "rise(1)", x.rise(1), 1);
        due(15, "rise(1)", x.rise(1), 0);
        due(15, "rise(8)", x.rise(8), BEYOND);
        due(15, "rise(-1)", x.rise(-1), BEYOND);
        dueRow(15, x, 1, "..");
    }

    private static void asking() {
        NobodyBetween x = with("friends 0 1;bench seats 5 sits 0 8 1;bench seats 2 sits 2");
        due(17, "not between 0 and 1", x.may(3, 0), 24);
        due(17, "from another bench", x.may(2, 0), 24);
        dueRow(17, x, 0, "0.1..");
        due(16, "where it was", x.where(2), 10);
        due(17, "own seat too", x.may(1, 0), 30);
        due(17, "own seat too", x.may(2, 1), 3);
        x.friends(0, 3, 1);
        x.sit(4, 0, 1);
        due(17, "it holds not, whoever comes", x.may(3, 0), 0);
        due(17, "unless the one who asks moves", x.may(4, 0), 24);
        due(17, "or one of the two friends", x.may(0, 0), 24);
        due(17, "may(8, 0)", x.may(8, 0), BEYOND);
        due(17, "may(-1, 0)", x.may(-1, 0), BEYOND);
        due(17, "may(0, 2)", x.may(0, 2), BEYOND);
        NobodyBetween boat = with("boat seats 5 sits 0;held 20");
        due(17, "10 * -4 and 10 * 2 or 4", boat.may(1, 0), 24);
    }

    private static void kinds() {
        NobodyBetween x = with("bench seats 3;friends 0 1;friends 0 2;friends 0 3");
        due(18, "all may come whatever it is", x.kind(0, 0), 0);
        x.sit(1, 0, 0);
        due(18, "at 1 the last is free for all; at 2 between 0 and 1 nobody may sit", x.kind(0, 0), 1);
        dueRow(18, x, 0, "1..");
        x.sit(2, 0, 1);
        due(18, "0 at 2 would have 2 between 0 and 1", x.kind(0, 0), NONE);
        due(18, "4 at 2: no others have a seat", x.kind(4, 0), 2);
        due(18, "1 may keep its seat, or change", x.kind(1, 0), 0);
        due(18, "kind(8, 0)", x.kind(8, 0), BEYOND);
        due(18, "kind(-1, 0)", x.kind(-1, 0), BEYOND);
        due(18, "kind(0, 1)", x.kind(0, 1), BEYOND);
    }

    private static void coming() {
        NobodyBetween x = with("bench seats 8;pew seats 2 sits 7");
        int z = 1;
        int due = 0;
        boolean[] sits = new boolean[8];
        sits[7] = true;
        StringBuilder order = new StringBuilder();
        for (int i = 0; i < 20; i++) {
            z = z * 1103515245 + 12345;
            int person = (z >>> 8) % 8;
            if (!sits[person]) {
                sits[person] = true;
                due++;
                order.append(person);
            }
        }
        while (order.length() < 8) {
            order.append('.');
        }
        due(19, "come(0, 20)", x.come(0, 20), due);
        due(19, "z", x.count(6), z);
        dueRow(19, x, 0, order.toString());
        dueRow(19, x, 1, "7.");
        due(19, "come(0, 0)", x.come(0, 0), BEYOND);
        due(19, "come(0, 21)", x.come(0, 21), BEYOND);
        due(19, "come(2, 1)", x.come(2, 1), BEYOND);
        due(19, "no draws with a finding", x.count(6), z);
        due(32, "seed(-2147483648)", x.seed(-2147483648), z);
        due(32, "seed(7)", x.seed(7), -2147483648);
        due(32, "no finding", x.status(-1), 3);
        x.come(0, 1);
        due(19, "z from 7", x.count(6), 7 * 1103515245 + 12345);
    }

    private static void seatings() {
        NobodyBetween x = with("friends 0 1;bench seats 3;bench seats 4;bench seats 5");
        due(20, "2 not in the middle", x.seatings(0, 7), 4);
        due(20, "bench of 4", x.seatings(1, 7), 20);
        x.turn(0, RING);
        due(20, "ring of 3: 2 is always between", x.seatings(0, 7), 0);
        x.turn(1, RING);
        due(20, "ring of 4", x.seatings(1, 7), 16);
        x.turn(1, TABLE);
        due(20, "table of 4: round the empty one", x.seatings(1, 7), 0);
        x.turn(1, PEW);
        due(20, "pew of 4", x.seatings(1, 7), 16);
        x.turn(2, PEW);
        due(20, "pew of 5", x.seatings(2, 7), 44);
        x.turn(2, BED);
        due(20, "bed of 5", x.seatings(2, 7), 40);
        due(20, "nobody", x.seatings(2, 0), 1);
        due(20, "as many as seats", x.seatings(2, 124), 120);
        due(20, "more than seats", x.seatings(2, 126), SIZE);
        due(20, "set 256", x.seatings(2, 256), BEYOND);
        due(20, "set -1", x.seatings(2, -1), BEYOND);
        due(20, "bench 3", x.seatings(3, 0), BEYOND);
        due(20, "bench -1", x.seatings(-1, 0), BEYOND);
        due(20, "8 seats", x.bench(BENCH, 8), 3);
        due(20, "6 of 8", x.seatings(3, 252), 20160);
        due(20, "7 of 8", x.seatings(3, 254), SIZE);
        x.sit(7, 3, 0);
        x.sit(6, 2, 0);
        due(20, "as if nobody sat", x.seatings(3, 252), 20160);
        x.friends(0, 1, 2);
        due(20, "secret", x.seatings(0, 7), 6);
        x.over(true);
        due(20, "secret, over", x.seatings(0, 7), 0);
    }

    private static void seatingsOfBoats() {
        NobodyBetween x = with("boat seats 3;raft seats 3;held 0;weight 2 20");
        int[][] heldBoatRaft = {{0, 2, 2}, {9, 2, 2}, {10, 2, 6}, {19, 2, 6}, {20, 6, 6}};
        for (int[] due : heldBoatRaft) {
            x.held(due[0]);
            due(20, "boat of 3, held " + due[0], x.seatings(0, 3), due[1]);
            due(20, "raft of 3, held " + due[0], x.seatings(1, 3), due[2]);
        }
        x.held(20);
        due(20, "2 weighs 20: in the middle, or ahead with 10s behind", x.seatings(0, 7), 6);
        x.held(0);
        due(20, "2 in the middle", x.seatings(0, 7), 2);
        x.friends(0, 1, 1);
        due(20, "but not between friends", x.seatings(0, 7), 0);
    }

    private static void laying() {
        NobodyBetween x = with("pew seats 2 sits 0 5;bench seats 3 sits 4 8 6;friends 0 1");
        String[] rows = {".01", ".12", "0.1", "01.", "02."};
        int[] sets = {3, 6, 3, 3, 5};
        int[] places = {0, 0, 2, 3, 3};
        for (int i = 0; i < rows.length; i++) {
            due(21, "lay", x.lay(1, sets[i], places[i]), 1);
            dueRow(21, x, 1, rows[i]);
        }
        dueRow(21, x, 0, ".5");
        due(21, "all others rise", x.where(4), NONE);
        due(21, "the first with 2 not in the middle", x.lay(1, 7, 0), 1);
        dueRow(21, x, 1, "012");
        due(21, "021 holds not, so the next is 102", x.lay(1, 7, 1), 1);
        dueRow(21, x, 1, "102");
        due(21, "the last one", x.lay(1, 7, 3), 1);
        dueRow(21, x, 1, "210");
        due(21, "there are 4", x.lay(1, 7, 4), NONE);
        dueRow(21, x, 1, "210");
        due(21, "i far beyond", x.lay(1, 7, 2147483647), NONE);
        due(21, "i -1", x.lay(1, 7, -1), BEYOND);
        due(21, "BEYOND ahead of SIZE", x.lay(1, 15, -1), BEYOND);
        due(21, "SIZE ahead of NONE", x.lay(1, 15, 2147483647), SIZE);
        due(21, "set 256", x.lay(1, 256, 0), BEYOND);
        due(21, "bench 2", x.lay(2, 1, 0), BEYOND);
        due(21, "nobody", x.lay(1, 0, 0), 1);
        dueRow(21, x, 1, "...");
    }

    private static void mostOfSet() {
        NobodyBetween x = with("friends 0 1;friends 1 2;friends 0 2;ring seats 3;bench seats 2;boat seats 2;held 0");
        due(22, "two of three", x.most(0, 7), 3);
        due(22, "other sets", x.most(0, 14), 6);
        due(22, "no more than seats", x.most(1, 63), 3);
        due(22, "the least", x.most(1, 44), 12);
        due(22, "nobody", x.most(1, 0), 0);
        due(22, "boat", x.most(2, 62), 6);
        x.weight(1, 11);
        due(22, "boat: 1 weighs more", x.most(2, 62), 12);
        due(22, "boat: one alone lists", x.most(2, 1), 0);
        due(22, "7 in the set", x.most(0, 127), SIZE);
        due(22, "set 256", x.most(0, 256), BEYOND);
        due(22, "set -1", x.most(0, -1), BEYOND);
        due(22, "bench 3", x.most(3, 1), BEYOND);
    }

    private static void quarrels() {
        NobodyBetween x = with("friends 0 1;friends 1 2;bench seats 3;ring seats 3;friends 5 6");
        due(23, "either frees as many: the least", x.frees(0, 7), 1);
        due(23, "all stay wrong: the least", x.frees(1, 7), 1);
        due(23, "a pair", x.frees(0, 96), 56);
        due(23, "no pair in it", x.frees(0, 5), NONE);
        due(23, "nobody", x.frees(0, 0), NONE);
        due(23, "more than seats", x.frees(0, 15), SIZE);
        due(23, "SIZE ahead of NONE", x.frees(0, 240), SIZE);
        due(23, "set 256", x.frees(0, 256), BEYOND);
        due(23, "bench 2", x.frees(2, 0), BEYOND);
        due(23, "still friends", x.are(0, 1), 1);
        x.friends(0, 1, 2);
        due(23, "secret ones count not", x.frees(0, 7), 12);
        x.over(true);
        due(23, "secret ones count now", x.frees(0, 7), 1);
        due(23, "still secret", x.are(0, 1), 2);
        NobodyBetween boat = with("boat seats 3;weight 1 20;held 0;friends 0 1;friends 0 2");
        due(23, "1 must sit in the middle: only 0 and 2 matter", boat.frees(0, 7), 2);
    }

    private static void often() {
        NobodyBetween x = with("friends 0 1;bench seats 3");
        due(24, "2 never in the middle", x.often(0, 7, 2, 1), 0);
        due(24, "2 ahead", x.often(0, 7, 2, 0), 2);
        due(24, "0 in the middle", x.often(0, 7, 0, 1), 2);
        due(24, "0 ahead", x.often(0, 7, 0, 0), 1);
        due(24, "of two", x.often(0, 3, 1, 2), 2);
        due(24, "seatings() are as before", x.seatings(0, 7), 4);
        due(24, "not in the set", x.often(0, 3, 2, 0), BEYOND);
        due(24, "person 8", x.often(0, 255, 8, 0), BEYOND);
        due(24, "person -1", x.often(0, 255, -1, 0), BEYOND);
        due(24, "person 32", x.often(0, 1, 32, 0), BEYOND);
        due(24, "seat 3", x.often(0, 7, 0, 3), BEYOND);
        due(24, "seat -1", x.often(0, 7, 0, -1), BEYOND);
        due(24, "set 256", x.often(0, 256, 0, 0), BEYOND);
        due(24, "bench 1", x.often(1, 7, 0, 0), BEYOND);
        due(24, "SIZE", x.often(0, 15, 0, 0), SIZE);
        due(24, "BEYOND ahead of SIZE", x.often(0, 15, 4, 0), BEYOND);
    }

    private static void needs() {
        NobodyBetween x = with("friends 0 1;friends 1 2;friends 0 2;bench seats 1;boat seats 8;held 0");
        int[][] kindsAndDue = {{BENCH, 4}, {PEW, 5}, {RING, 5}, {BED, NONE}, {TABLE, 7}};
        for (int[] due : kindsAndDue) {
            x.turn(0, due[0]);
            due(25, "three friends, kind " + due[0], x.needs(0, 7), due[1]);
        }
        due(25, "as many as there are", x.needs(0, 56), 3);
        due(25, "nobody", x.needs(0, 0), 1);
        due(25, "boat: one in the middle of 1", x.needs(1, 8), 1);
        due(25, "boat: two of one weight", x.needs(1, 24), 2);
        x.weight(3, 20);
        due(25, "boat: 20 one off, 10 two off", x.needs(1, 24), 5);
        due(25, "seats are as before", x.benchOf(1, 1), 8);
        x.weight(3, 99);
        due(25, "boat: never", x.needs(1, 24), NONE);
        due(25, "7 in the set", x.needs(0, 127), SIZE);
        due(25, "set 256", x.needs(0, 256), BEYOND);
        due(25, "bench 2", x.needs(2, 0), BEYOND);
    }

    private static void gains() {
        NobodyBetween x = with("bed seats 6 sits 0 1 8 2 3 4;friends 0 1;secret 3 4;friends 2 3;friends 1 2;ring seats 2");
        due(26, "gain(0)", x.gain(0), 1);
        due(26, "beside is the next seat alone", x.gain(1), 1);
        due(26, "gain(2)", x.gain(2), 1);
        due(26, "secret ones too", x.gain(3), 2);
        due(26, "secret ones too", x.gain(4), 1);
        due(27, "worth(0)", x.worth(0), 6);
        x.over(true);
        due(27, "over or not", x.worth(0), 6);
        due(27, "worth(1)", x.worth(1), 0);
        due(27, "worth(2)", x.worth(2), BEYOND);
        due(27, "worth(-1)", x.worth(-1), BEYOND);
        due(26, "gain(5)", x.gain(5), STATE);
        due(26, "gain(8)", x.gain(8), BEYOND);
        due(26, "gain(-1)", x.gain(-1), BEYOND);
        NobodyBetween ring = with("ring seats 3 sits 0 8 1;friends 0 1");
        due(26, "not round", ring.gain(0), 0);
    }

    private static void exchanges() {
        NobodyBetween x = with("bench seats 5 sits 0 1 8 2 3;friends 0 3;friends 1 2");
        due(28, "0 and 2 change: both have their friends", x.exchange(0), 2);
        dueRow(28, x, 0, "21.03");
        due(28, "no more", x.exchange(0), NONE);
        due(28, "exchange(1)", x.exchange(1), BEYOND);
        due(28, "exchange(-1)", x.exchange(-1), BEYOND);
        NobodyBetween pew = with("pew seats 5 sits 0 1 8 2 3;friends 0 3;friends 1 2;friends 1 3");
        due(28, "0 and 2 would gain, but 0 would be between 1 and 3", pew.exchange(0), NONE);
        dueRow(28, pew, 0, "01.23");
        pew.turn(0, BENCH);
        due(28, "on a bench they do", pew.exchange(0), 2);
        dueRow(28, pew, 0, "21.03");
        NobodyBetween one = with("bench seats 4 sits 0 1 2;friends 0 2");
        due(28, "0 would gain, 1 not", one.exchange(0), NONE);
        NobodyBetween secret = with("bench seats 6 sits 4 5 8 6 7;secret 4 7;secret 5 6");
        due(28, "secret ones count", secret.exchange(0), 46);
    }

    private static void shows() {
        NobodyBetween x = with("bench seats 5 sits 0 1 2 8 3;ring seats 3 sits 4 5 6");
        due(29, "0 and 2", x.shows(0), 1);
        due(29, "a ring of three: each pair", x.shows(1), 3);
        x.turn(0, PEW);
        due(29, "0 and 2, 1 and 3", x.shows(0), 2);
        x.turn(0, TABLE);
        due(29, "0 and 2 twice, 1 and 3 twice", x.shows(0), 2);
        x.friends(0, 2, 1);
        due(29, "it holds not", x.shows(0), STATE);
        due(29, "shows(2)", x.shows(2), BEYOND);
        due(29, "shows(-1)", x.shows(-1), BEYOND);
        NobodyBetween boat = with("boat seats 3 sits 0;held 19;ring seats 4 sits 1 2 3 4");
        due(29, "it lists", boat.shows(0), STATE);
        boat.held(20);
        due(29, "one alone", boat.shows(0), 0);
        due(29, "each pair once", boat.shows(1), 2);
    }

    private static void courses() {
        NobodyBetween x = with("bench seats 4 sits 0 1 2;friends 0 2;boat seats 2 sits 3;held 9");
        due(30, "course(0, 2)", x.course(0, 2), 1);
        dueRow(30, x, 0, "2.01");
        due(30, "course(0, 7)", x.course(0, 7), 0);
        dueRow(30, x, 0, ".012");
        due(30, "course(0, 4)", x.course(0, 4), 0);
        dueRow(30, x, 0, ".012");
        due(30, "course(0, 0)", x.course(0, 0), BEYOND);
        due(30, "course(0, 8)", x.course(0, 8), BEYOND);
        due(30, "course(2, 1)", x.course(2, 1), BEYOND);
        due(31, "012. and .012 hold not", x.turns(0), 2);
        dueRow(31, x, 0, ".012");
        due(31, "a boat that lists either way", x.turns(1), 0);
        x.held(10);
        due(31, "and one that may", x.turns(1), 2);
        due(31, "turns(2)", x.turns(2), BEYOND);
        due(31, "turns(-1)", x.turns(-1), BEYOND);
    }

    private static void tape() {
        NobodyBetween x = new NobodyBetween();
        due(33, "feed(.., 0)", x.feed(1, 0), BEYOND);
        due(33, "feed(.., 5)", x.feed(1, 5), BEYOND);
        due(33, "the highest first", x.feed(0x68656C64, 4), 4);
        due(33, "the lowest bytes alone", x.feed(0x7F7F2037, 2), 6);
        due(33, "held 7", x.text(), 1);
        due(33, "held is 7", x.count(4), 7);
        for (int i = 1; i <= 29; i++) {
            due(33, "feed", x.feed(-1, 4), 4 * i);
        }
        due(33, "118", x.feed(0, 2), 118);
        due(33, "no room for 3", x.feed(0, 3), FULL);
        due(33, "BEYOND ahead of FULL", x.feed(0, 5), BEYOND);
        due(33, "room for 2", x.feed(0, 2), 120);
        due(33, "no room for 1", x.feed(0, 1), FULL);
        due(34, "wipe", x.wipe(), 120);
        due(34, "wipe", x.wipe(), 0);
        due(34, "count(5)", x.count(5), 0);
    }

    private static void texts() {
        NobodyBetween x = new NobodyBetween();
        due(35, "all items", tell(x, "friends 0 1;secret 2 3;weight 4 99;held 999;bed seats 3 sits 8 5"), 5);
        due(35, "friends", x.are(0, 1), 1);
        due(35, "secret", x.are(3, 2), 2);
        due(35, "weight", x.weight(4, 10), 99);
        due(35, "held", x.count(4), 999);
        due(35, "kind", x.benchOf(0, 0), BED);
        dueRow(35, x, 0, ".5.");
        due(35, "it is empty then", x.count(5), 0);
        due(35, "tokens as long as can be, blanks anywhere", tell(x, "  held007;  pew  seats2sits 8 6 "), 2);
        due(35, "held", x.count(4), 7);
        dueRow(35, x, 1, ".6");
        due(35, "many zeros", tell(x, "held 000000000000000000000000000000000000000000000000000000000009"), 1);
        due(35, "held", x.count(4), 9);
        due(35, "item by item: the later one counts", tell(x, "held 1;held 2"), 2);
        due(35, "held", x.count(4), 2);
        due(35, "friends again", tell(x, "secret 0 1"), 1);
        due(35, "secret now", x.are(0, 1), 2);
        due(35, "every kind", tell(x, "bench seats 1;ring seats 2;boat seats 3"), 3);
        due(35, "ring", x.benchOf(3, 0), RING);
        due(35, "boat", x.benchOf(4, 0), BOAT);
        due(35, "no findings", x.status(-1), 0);
        NobodyBetween y = with("table seats 1;raft seats 8;bench seats 8 sits 0 1 2 3 4 5 6 7");
        due(35, "table", y.benchOf(0, 0), TABLE);
        due(35, "raft", y.benchOf(1, 0), RAFT);
        dueRow(35, y, 2, "01234567");
    }

    private static void dueFault(String text, int fault) {
        NobodyBetween x = with("friends 0 1;held 3;bench seats 2 sits 7");
        due(35, "fault of '" + text + "'", tell(x, text), -1 - fault);
        due(35, "nothing changes by '" + text + "'",
                x.count(0) + 10 * x.count(1) + 100 * x.count(2) + 1000 * x.count(4) + 10000 * x.count(3), 3111);
        due(35, "weights stay", x.weight(1, 10), 10);
        due(35, "it is empty then", x.count(5), 0);
        due(35, "no finding", x.status(-1), 0);
    }

    private static void faultsOfItems() {
        dueFault("", 0);
        dueFault("   ", 3);
        dueFault(";", 0);
        dueFault("12", 0);
        dueFault("held 5;", 7);
        dueFault("held 5;  ", 9);
        dueFault("held 5;;held 6", 7);
        dueFault("held 5 held 6", 7);
        dueFault("held 5 6", 7);
        dueFault("weight 1 5;held 1000", 16);
        dueFault("weight 1 5;held 99999999999999999999", 16);
        dueFault("weight 1 0", 9);
        dueFault("weight 1 100", 9);
        dueFault("weight 8 1", 7);
        dueFault("weight 1", 8);
        dueFault("weight", 6);
        dueFault("held", 4);
        dueFault("held seats", 5);
        dueFault("friends 2 2", 10);
        dueFault("friends 8 2", 8);
        dueFault("secret 2 3;secret 2 8", 20);
        dueFault("secret 2 3;secret 2;", 19);
        dueFault("friendsheld 2", 0);
        dueFault("friend 2 3", 0);
        dueFault("Held 2", 0);
        dueFault("held 2:", 6);
        dueFault("held 2\n", 6);
        dueFault("held -2", 5);
        dueFault("held 2;\u00e9", 7);
        dueFault("seats 2", 0);
        dueFault("sits 2", 0);
    }

    private static void faultsOfBenches() {
        dueFault("bench", 5);
        dueFault("bench 3", 6);
        dueFault("bench sits 3", 6);
        dueFault("bench seats", 11);
        dueFault("bench seats 0", 12);
        dueFault("bench seats 9", 12);
        dueFault("bench seats 2 seats 2", 14);
        dueFault("bench seats 2 3", 14);
        dueFault("bench seats 2 sits", 18);
        dueFault("bench seats 2 sits;", 18);
        dueFault("bench seats 2 sits 9", 19);
        dueFault("bench seats 2 sits 7", 19);
        dueFault("bench seats 2 sits 1 1", 21);
        dueFault("bench seats 2 sits 1 2 3", 23);
        dueFault("bench seats 2 sits 8 8 8", 23);
        dueFault("bench seats 2 sits 1;pew seats 2 sits 8 1", 40);
        dueFault("pew seats 1;bed seats 1;raft seats 1;ring seats 1;table seats 1", 50);
        dueFault("pew seats 1;bed seats 1;raft seats 1;ring seats 1;held 5;tables seats 1", 57);
    }

    private static void spots() {
        NobodyBetween x = new NobodyBetween();
        boolean[][] is = {
            {true, false, false, false, false, false, false},
            {true, true, false, false, false, false, false},
            {true, false, true, false, false, false, false},
            {true, false, false, true, false, false, false},
            {true, true, false, false, true, false, false},
            {true, false, true, false, false, true, false},
            {true, false, false, true, false, false, true}};
        x.bench(BENCH, 1);
        x.bench(BENCH, 2);
        due(36, "hold(9, 1)", x.hold(9, 1), 1);
        for (int kind = 0; kind < 7; kind++) {
            x.turn(1, kind);
            for (int as = 0; as < 7; as++) {
                due(37, kind + " as " + as, x.as(9, as), is[kind][as] ? 1 : KIND);
            }
        }
        due(37, "as(8, 0)", x.as(8, 0), MISSING);
        due(37, "as(10, 0)", x.as(10, 0), BEYOND);
        due(37, "as(-1, 0)", x.as(-1, 0), BEYOND);
        due(37, "as(9, 7)", x.as(9, 7), BEYOND);
        due(37, "as(9, -1)", x.as(9, -1), BEYOND);
        due(37, "BEYOND ahead of MISSING", x.as(8, 7), BEYOND);
        due(36, "hold(10, 0)", x.hold(10, 0), BEYOND);
        due(36, "hold(-1, 0)", x.hold(-1, 0), BEYOND);
        due(36, "hold(9, 2)", x.hold(9, 2), BEYOND);
        due(36, "hold(9, -2)", x.hold(9, -2), BEYOND);
        due(36, "still held", x.as(9, 6), 1);
        due(36, "nothing", x.hold(9, -1), 1);
        due(37, "nothing", x.as(9, 0), MISSING);
    }

    private static void sheets() {
        NobodyBetween x = with("bench seats 1");
        due(38, "sheet(3, 8, 40)", x.sheet(3, 8, 40), 40);
        due(38, "sheet(4, 8, 1)", x.sheet(4, 8, 1), BEYOND);
        due(38, "sheet(-1, 8, 1)", x.sheet(-1, 8, 1), BEYOND);
        due(38, "other bits", x.sheet(3, 24, 1), BEYOND);
        due(38, "other bits ahead of SIZE", x.sheet(3, 1, -1), BEYOND);
        due(38, "below 0", x.sheet(3, 8, -1), SIZE);
        due(38, "below 0, missing", x.sheet(3, 0, -1), SIZE);
        due(38, "above 40", x.sheet(3, 32, 41), BEYOND);
        due(38, "above 40, missing", x.sheet(3, 0, 41), BEYOND);
        due(38, "it is as it was", x.write(3, 39, 1), 1);
        due(39, "number 40", x.write(3, 40, 1), BEYOND);
        due(39, "number -1", x.write(3, -1, 1), BEYOND);
        due(39, "sheet 4", x.write(4, 0, 1), BEYOND);
        due(39, "sheet -1", x.write(-1, 0, 1), BEYOND);
        due(39, "MISSING ahead of BEYOND", x.write(2, 99, 1), MISSING);
        due(38, "missing", x.sheet(3, 0, 17), 0);
        due(38, "missing", x.write(3, 0, 1), MISSING);
        due(38, "none of 16", x.sheet(3, 16, 0), 0);
        due(38, "is not missing", x.write(3, 0, 1), BEYOND);
        int[] bits = {8, 16, 32};
        for (int b : bits) {
            x.sheet(0, b, 1);
            due(39, "write", x.write(0, 0, 0x10007), 1);
            due(39, "its lowest bits", x.judge(0, 0), b == 32 ? 1 : 0);
            x.write(0, 0, 0x108);
            due(39, "8 of 0x108 is nobody", x.judge(0, 0), b == 8 ? 0 : 1);
            x.sheet(0, b, 1);
            due(38, "all 0", x.load(0, 0), 1);
            due(38, "all 0", x.seat(0, 0), 0);
        }
    }

    private static void copies() {
        NobodyBetween x = with("bench seats 6");
        x.sheet(0, 8, 6);
        x.sheet(1, 8, 4);
        x.sheet(2, 16, 4);
        for (int i = 0; i < 6; i++) {
            x.write(0, i, i);
        }
        due(40, "within one, as they all were", x.copy(0, 0, 0, 1, 3), 3);
        x.write(0, 0, 8);
        x.write(0, 4, 8);
        due(40, "load", x.load(0, 0), 6);
        dueRow(40, x, 0, ".012.5");
        due(40, "to another one", x.copy(0, 1, 1, 0, 4), 4);
        due(40, "0 1 2 8", x.judge(1, 0), 41);
        due(40, "back", x.copy(1, 0, 0, 2, 4), 4);
        due(40, "load 8 0 0 1 2 8", x.load(0, 0), 2);
        due(40, "none", x.copy(0, 6, 1, 4, 0), 0);
        due(40, "none, from too far", x.copy(0, 7, 1, 4, 0), BEYOND);
        due(40, "none, to too far", x.copy(0, 6, 1, 5, 0), BEYOND);
        due(40, "from has not so many", x.copy(0, 4, 1, 0, 3), BEYOND);
        due(40, "to has not so many", x.copy(0, 0, 1, 1, 4), BEYOND);
        due(40, "from -1", x.copy(0, -1, 1, 0, 1), BEYOND);
        due(40, "to -1", x.copy(0, 0, 1, -1, 1), BEYOND);
        due(40, "n -1", x.copy(0, 0, 1, 0, -1), BEYOND);
        due(40, "far beyond", x.copy(0, 2147483647, 1, 0, 2147483647), BEYOND);
        due(40, "far below", x.copy(0, -2147483648, 1, 0, -2147483648), BEYOND);
        due(40, "other bits", x.copy(0, -1, 2, 0, 1), KIND);
        due(40, "one is missing", x.copy(0, 0, 3, 0, 1), MISSING);
        due(40, "one is missing", x.copy(3, 0, 2, 0, 1), MISSING);
        due(40, "sheet 4", x.copy(0, 0, 4, 0, 1), BEYOND);
        due(40, "sheet -1", x.copy(-1, 0, 3, 0, 1), BEYOND);
    }

    private static void loads() {
        NobodyBetween x = with("bench seats 4 sits 0 1 2 3;pew seats 3 sits 8 5");
        x.sheet(0, 8, 40);
        int[] told = {4, 8, 2};
        for (int i = 0; i < told.length; i++) {
            x.write(0, i, told[i]);
        }
        due(41, "0 sits on seat 0: it ends", x.load(0, 0), 0);
        x.write(0, 0, 8);
        due(41, "8 8 2, then 0: 3 sits there", x.load(0, 0), 3);
        dueRow(41, x, 0, "..23");
        x.write(0, 1, 5);
        x.write(0, 3, 9);
        due(41, "8 5 2, then 9", x.load(0, 0), 3);
        dueRow(41, x, 0, ".523");
        dueRow(41, x, 1, "...");
        x.write(0, 0, 6);
        x.write(0, 1, 6);
        x.write(0, 2, -1);
        due(41, "6 6, then -1", x.load(0, 1), 2);
        dueRow(41, x, 1, ".6.");
        x.sheet(0, 8, 40);
        due(41, "0 0 0 and no seat left", x.load(0, 1), 1);
        x.rise(6);
        due(41, "0 0 0 and no seat left", x.load(0, 1), 3);
        dueRow(41, x, 1, "..0");
        x.sheet(0, 8, 0);
        due(41, "none", x.load(0, 1), 0);
        due(41, "sheet 4", x.load(4, 0), BEYOND);
        due(41, "sheet -1", x.load(-1, 0), BEYOND);
        due(41, "MISSING ahead of no such bench", x.load(1, 9), MISSING);
        due(41, "bench 2", x.load(0, 2), BEYOND);
        due(41, "bench -1", x.load(0, -1), BEYOND);
    }

    private static void judges() {
        NobodyBetween x = with("bench seats 8;friends 0 2;boat seats 2;held 9");
        x.sheet(0, 32, 8);
        for (int i = 0; i < 8; i++) {
            x.write(0, i, 7 - i);
        }
        due(42, "8 of them, 1 between 2 and 0", x.judge(0, 0), 42);
        x.write(0, 6, 8);
        due(42, "7 of them", x.judge(0, 0), 0);
        x.write(0, 5, 7);
        due(42, "7 twice, there the second time", x.judge(0, 0), 6);
        x.write(0, 3, 9);
        due(42, "the first", x.judge(0, 0), 4);
        x.write(0, 3, -1);
        due(42, "no person", x.judge(0, 0), 4);
        x.write(0, 3, 8);
        x.write(0, 5, 8);
        due(42, "8s are told often", x.judge(0, 0), 0);
        due(42, "not as many", x.judge(0, 1), 41);
        x.write(0, 7, 100);
        due(42, "the place ahead of 41", x.judge(0, 1), 8);
        x.sheet(1, 8, 40);
        x.write(1, 0, 8);
        due(42, "0 twice", x.judge(1, 0), 3);
        for (int i = 0; i < 39; i++) {
            x.write(1, i, 8);
        }
        due(42, "40 numbers", x.judge(1, 0), 41);
        x.write(1, 39, 9);
        due(42, "the last place", x.judge(1, 0), 40);
        x.sheet(2, 8, 2);
        x.write(2, 0, 8);
        due(42, "the boat lists", x.judge(2, 1), 42);
        x.held(10);
        due(42, "the boat lists no more than held", x.judge(2, 1), 0);
        x.sit(0, 0, 0);
        due(42, "whoever sits elsewhere", x.judge(2, 1), 0);
        due(42, "nobody moved", x.where(0), 0);
        due(42, "sheet 4", x.judge(4, 0), BEYOND);
        due(42, "sheet -1", x.judge(-1, 0), BEYOND);
        due(42, "MISSING ahead of no such bench", x.judge(3, 9), MISSING);
        due(42, "bench 2", x.judge(0, 2), BEYOND);
    }

    private static void images() {
        NobodyBetween x = with("friends 0 1;weight 2 5;held 7;ring seats 3 sits 0");
        x.seed(9);
        x.hold(3, 0);
        x.over(true);
        due(43, "image", x.image(), 1);
        tell(x, "secret 0 1;weight 2 6;held 8;pew seats 1 sits 4");
        x.seed(10);
        x.hold(3, 1);
        x.over(false);
        x.turn(0, BOAT);
        x.sit(0, 0, 2);
        x.sheet(0, 8, 5);
        feed(x, "abc");
        x.sit(9, 9, 9);
        due(44, "undo", x.undo(), 1);
        due(44, "friends", x.are(0, 1), 1);
        due(44, "weight", x.weight(2, 50), 5);
        due(44, "held", x.held(51), 7);
        due(44, "z", x.count(6), 9);
        due(44, "over", x.over(false), 1);
        due(44, "spots", x.as(3, RING), 0);
        due(44, "seats", x.where(0), 0);
        due(44, "seats", x.where(4), NONE);
        due(44, "not the tape", x.wipe(), 3);
        due(44, "not the sheets", x.write(0, 4, 1), 1);
        due(47, "nor findings", x.status(-1), 2);
        due(44, "it stays", x.undo(), 1);
        due(44, "it stays as it was", x.weight(2, 50), 5);
        x.bench(0, 2);
        due(43, "a later one", x.image(), 1);
        x.weight(2, 51);
        x.bench(0, 2);
        due(44, "the latest", x.undo(), 2);
        due(44, "the latest", x.weight(2, 1), 50);
        due(45, "tear", x.tear(), 1);
        due(45, "tear", x.tear(), 0);
        due(44, "nothing is kept", x.undo(), NONE);
        due(45, "nothing changed", x.count(0), 2);
    }

    private static void counts() {
        NobodyBetween x = with("friends 0 1;friends 1 2;secret 3 4;held 11;boat seats 2 sits 5;pew seats 3 sits 0 6 2");
        x.friends(0, 2, 1);
        feed(x, "xyz");
        int[] due = {2, 4, 3, 1, 11, 3, 1, 1};
        for (int what = 0; what < 8; what++) {
            due(46, "count(" + what + ")", x.count(what), due[what]);
        }
        x.over(true);
        due(46, "secret ones count", x.count(2), 4);
        due(46, "secret ones stay secret", x.count(3), 1);
        x.rise(6);
        due(46, "all hold", x.count(7), 2);
        due(46, "count(8)", x.count(8), BEYOND);
        due(46, "count(-1)", x.count(-1), BEYOND);
        x.seed(-1000005);
        due(46, "z is no finding", x.count(6), -1000005);
        due(46, "z is no finding", x.status(-1), 2);
    }

    private static void statuses() {
        NobodyBetween x = new NobodyBetween();
        x.undo();
        for (int i = 0; i < 6; i++) {
            x.bench(0, 1);
        }
        x.hold(0, 0);
        x.as(0, 1);
        x.as(0, 2);
        x.gain(0);
        for (int i = 0; i < 3; i++) {
            x.as(1, 0);
        }
        x.seatings(0, 3);
        x.image();
        x.undo();
        int[] due = {0, 1, 2, 1, 1, 3, 1};
        for (int which = 0; which < 7; which++) {
            due(47, "status(" + which + ")", x.status(which), due[which]);
        }
        due(47, "status(-1)", x.status(-1), 9);
        due(47, "status(7)", x.status(7), BEYOND);
        due(47, "status(-2)", x.status(-2), BEYOND);
        due(47, "counted from then on", x.status(0), 2);
        due(47, "counted from then on", x.status(-1), 11);
    }
}
