/** Promises 8 to 16: benches. */
final class BenchEdges {
    private static final int LEFT = 0;
    private static final int RIGHT = 1;

    private BenchEdges() {
    }

    static void run(Sentences s) {
        bench(s);
        benchOf(s);
        lists(s);
        boats(s);
        rafts(s);
        turn(s);
        seat(s);
        besideOfArguments(s);
        besideInARow(s);
        besideRound(s);
        besideItself(s);
        wrong(s);
        wrongRound(s);
        sit(s);
        sitElsewhere(s);
        rise(s);
        where(s);
    }

    private static void bench(Sentences s) {
        s.says(8, "BENCHES 0, 1, .. (at most 5)");
        NobodyBetween x = new NobodyBetween();
        for (int i = 0; i < 5; i++) {
            s.due("count(0)", x.count(0), i);
            s.due("bench " + i, x.bench(i, 1 + i), i);
        }
        s.due("the 6th", x.bench(0, 1), Sentences.FULL);
        s.due("count(0)", x.count(0), 5);
        s.refused(Rooms::full, "the 6th", y -> y.bench(0, 1), Sentences.FULL);
        s.says(8, "each with 1 to 8 SEATS (0 and so on)");
        s.range(Rooms::furnished, "seats", 1, 8, (y, v) -> y.bench(0, v));
        for (int seats = 1; seats <= 8; seats++) {
            NobodyBetween y = new NobodyBetween();
            y.bench(0, seats);
            s.due("SEATS", y.benchOf(0, 1), seats);
            s.due("SEAT 0", y.seat(0, 0), -1);
            s.due("the last SEAT", y.seat(0, seats - 1), -1);
            s.due("behind it", y.seat(0, seats), Sentences.BEYOND);
        }
        s.says(8, "KINDS: 0 BENCH; 1 PEW, 2 RING, 3 BOAT under BENCH; 4 BED under PEW; 5 TABLE under RING;"
                + " 6 RAFT under BOAT.");
        s.range(Rooms::furnished, "kind", 0, 6, (y, v) -> y.bench(v, 3));
        s.says(8, "on each a PERSON or nobody (at first)");
        NobodyBetween again = Rooms.with("held 1");
        again.image();
        Rooms.tell(again, "bench seats 8 sits 0 1 2 3 4 5 6 7");
        s.due("no BENCH any more", again.undo(), 0);
        s.due("a new one", again.bench(0, 8), 0);
        s.dueRow("nobody, though some sat on one of that number", again, 0, "........");
        s.says(8, "A new BENCH: its number. BEYOND. FULL.");
        s.refused(Rooms::full, "BEYOND ahead of FULL: kind", y -> y.bench(7, 1), Sentences.BEYOND);
        s.refused(Rooms::full, "BEYOND ahead of FULL: seats", y -> y.bench(0, 9), Sentences.BEYOND);
        NobodyBetween z = Rooms.after(Rooms::full);
        z.undo();
        s.due("behind undo() there is room again", z.bench(0, 1), 2);
    }

    private static void benchOf(Sentences s) {
        s.says(9, "Of a BENCH: what 0 KIND, 1 SEATS, 2 how many sit there, 3 LISTS, 4 1 if it HOLDS, else 0.");
        NobodyBetween x = Rooms.with("raft seats 1;bench seats 8 sits 0 1 2 3 4 5 6 7;bed seats 3");
        int[][] due = {{6, 1, 0, 0, 1}, {0, 8, 8, 0, 1}, {4, 3, 0, 0, 1}};
        for (int bench = 0; bench < 3; bench++) {
            for (int what = 0; what < 5; what++) {
                s.due("benchOf(" + bench + ", " + what + ")", x.benchOf(bench, what), due[bench][what]);
            }
        }
        s.says(9, "BEYOND.");
        s.range(Rooms::furnished, "what", 0, 4, (y, v) -> y.benchOf(0, v));
        s.range(Rooms::furnished, "bench", 0, 2, (y, v) -> y.benchOf(v, 0));
    }

    private static void lists(Sentences s) {
        s.says(9, "LISTS of a BENCH: the sum, over all who sit on it, of WEIGHT times (twice the SEAT, less (how many"
                + " SEATS, less 1)).");
        NobodyBetween one = Rooms.with("bench seats 1 sits 0;weight 0 99");
        s.due("one SEAT", one.benchOf(0, 3), 0);
        NobodyBetween x = Rooms.with("bench seats 8;weight 0 99;weight 1 99;weight 2 99;weight 3 99;weight 4 1");
        s.due("nobody", x.benchOf(0, 3), 0);
        int[] each = {-693, -495, -297, -99, 99, 297, 495, 693};
        for (int seat = 0; seat < 8; seat++) {
            x.sit(0, 0, seat);
            s.due("99 on SEAT " + seat, x.benchOf(0, 3), each[seat]);
        }
        x.sit(1, 0, 6);
        x.sit(2, 0, 5);
        x.sit(3, 0, 4);
        s.due("the most there can be", x.benchOf(0, 3), 1584);
        x.course(0, 4);
        s.due("the least there can be", x.benchOf(0, 3), -1584);
        x.sit(4, 0, 7);
        s.due("1 on the last SEAT", x.benchOf(0, 3), -1577);
        x.weight(4, 2);
        s.due("another WEIGHT counts at once", x.benchOf(0, 3), -1570);
        NobodyBetween odd = Rooms.with("bench seats 7 sits 8 8 8 0;bench seats 7 sits 8 8 8 8 1");
        s.due("the SEAT in the middle", odd.benchOf(0, 3), 0);
        s.due("the one behind it", odd.benchOf(1, 3), 20);
    }

    private static void dueHolds(Sentences s, NobodyBetween x, int held, int holds) {
        x.held(held);
        s.due("LISTS " + x.benchOf(0, 3) + ", HELD " + held, x.benchOf(0, 4), holds);
    }

    private static void boats(Sentences s) {
        s.says(9, "A BENCH HOLDS, if no SEAT is WRONG; a BOAT: and LISTS, without sign, is HELD at most;");
        for (int seat = 0; seat < 2; seat++) {
            NobodyBetween x = new NobodyBetween();
            x.bench(Kind.BOAT, 2);
            dueHolds(s, x, 0, 1);
            x.sit(0, 0, seat);
            x.weight(0, 1);
            dueHolds(s, x, 0, 0);
            dueHolds(s, x, 1, 1);
            x.weight(0, 50);
            dueHolds(s, x, 49, 0);
            dueHolds(s, x, 50, 1);
            dueHolds(s, x, 51, 1);
        }
        NobodyBetween greatest = Rooms.with("boat seats 8 sits 8 8 8 8 2 1 8 0;weight 0 99;weight 1 99;weight 2 9");
        s.due("693 and 297 and 9", greatest.benchOf(0, 3), 999);
        dueHolds(s, greatest, 999, 1);
        dueHolds(s, greatest, 998, 0);
        greatest.weight(2, 10);
        dueHolds(s, greatest, 999, 0);
        NobodyBetween wrong = Rooms.with("friends 0 2;boat seats 3 sits 0 1 2;held 999");
        s.due("a SEAT is WRONG, LISTS is 0", wrong.benchOf(0, 4), 0);
        NobodyBetween others = Rooms.with("held 0;bench seats 8 sits 0");
        for (int kind : new int[] {Kind.BENCH, Kind.PEW, Kind.RING, Kind.BED, Kind.TABLE}) {
            others.turn(0, kind);
            s.due("kind " + kind + " may list", others.benchOf(0, 4), 1);
        }
    }

    private static void rafts(Sentences s) {
        s.says(9, "a RAFT: and that is twice HELD at most (HELD alone doesn't matter).");
        for (int seat = 0; seat < 2; seat++) {
            NobodyBetween x = new NobodyBetween();
            x.bench(Kind.RAFT, 2);
            dueHolds(s, x, 0, 1);
            x.sit(0, 0, seat);
            x.weight(0, 1);
            dueHolds(s, x, 0, 0);
            x.weight(0, 10);
            dueHolds(s, x, 5, 1);
            x.weight(0, 11);
            dueHolds(s, x, 5, 0);
            dueHolds(s, x, 6, 1);
        }
        NobodyBetween most = Rooms.with("raft seats 8 sits 8 8 8 8 0 1 2 3;weight 0 99;weight 1 99;weight 2 99;"
                + "weight 3 99");
        dueHolds(s, most, 791, 0);
        dueHolds(s, most, 792, 1);
        dueHolds(s, most, 999, 1);
        NobodyBetween wrong = Rooms.with("friends 0 2;raft seats 3 sits 0 1 2;held 999");
        s.due("a SEAT is WRONG, LISTS is 0", wrong.benchOf(0, 4), 0);
    }

    private static void turn(Sentences s) {
        s.says(10, "A BENCH becomes one of another KIND: what it was.");
        NobodyBetween x = Rooms.with("bench seats 3 sits 0 8 1;pew seats 2 sits 2");
        for (int was = 0; was < 7; was++) {
            for (int then = 0; then < 7; then++) {
                x.turn(0, was);
                s.due("turn(0, " + then + ")", x.turn(0, then), was);
                s.due("its KIND then", x.benchOf(0, 0), then);
            }
        }
        s.dueRow("all still sit", x, 0, "0.1");
        s.due("another BENCH stays", x.benchOf(1, 0), Kind.PEW);
        s.says(10, "BEYOND.");
        s.range(Rooms::furnished, "kind", 0, 6, (y, v) -> y.turn(1, v));
        s.range(Rooms::furnished, "bench", 0, 2, (y, v) -> y.turn(v, 3));
    }

    private static void seat(Sentences s) {
        s.says(11, "Who sits on a SEAT (-1: nobody). BEYOND.");
        s.range(Rooms::furnished, "seat of 8", 0, 7, (x, v) -> x.seat(2, v));
        s.range(Rooms::furnished, "seat of 3", 0, 2, (x, v) -> x.seat(1, v));
        s.range(Rooms::full, "seat of 1", 0, 0, (x, v) -> x.seat(3, v));
        s.range(Rooms::furnished, "bench", 0, 2, (x, v) -> x.seat(v, 0));
        s.range(Rooms::full, "bench of 5", 0, 4, (x, v) -> x.seat(v, 0));
        NobodyBetween x = Rooms.with("bench seats 8 sits 7 8 8 8 8 8 8 0;bench seats 8 sits 8 6");
        s.due("the first", x.seat(0, 0), 7);
        s.due("nobody", x.seat(0, 1), -1);
        s.due("the last", x.seat(0, 7), 0);
        s.due("of another BENCH", x.seat(1, 1), 6);
        x.rise(7);
        s.due("risen", x.seat(0, 0), -1);
    }

    private static void besideOfArguments(Sentences s) {
        s.says(12, "Who is LEFT (side 0), RIGHT (1) of a SEAT (-1: nobody). BEYOND.");
        s.range(Rooms::furnished, "side", 0, 1, (x, v) -> x.beside(0, 1, v));
        s.range(Rooms::furnished, "seat of 4", 0, 3, (x, v) -> x.beside(0, v, 0));
        s.range(Rooms::furnished, "seat of a TABLE", 0, 2, (x, v) -> x.beside(1, v, 1));
        s.range(Rooms::furnished, "seat of 8", 0, 7, (x, v) -> x.beside(2, v, 1));
        s.range(Rooms::furnished, "bench", 0, 2, (x, v) -> x.beside(v, 0, 0));
        NobodyBetween x = Rooms.with("bench seats 3 sits 5 8 6");
        s.due("LEFT of an empty SEAT", x.beside(0, 1, LEFT), 5);
        s.due("RIGHT of an empty SEAT", x.beside(0, 1, RIGHT), 6);
    }

    /** What is LEFT and RIGHT of all SEATS, told as a row sits. */
    private static void dueSides(Sentences s, String sits, int kind, String left, String right) {
        NobodyBetween x = Rooms.with("bench seats " + sits.length() + " sits " + spaced(sits));
        x.turn(0, kind);
        for (int seat = 0; seat < sits.length(); seat++) {
            s.due("LEFT of " + seat + " on " + sits, x.beside(0, seat, LEFT), who(left.charAt(seat)));
            s.due("RIGHT of " + seat + " on " + sits, x.beside(0, seat, RIGHT), who(right.charAt(seat)));
        }
    }

    private static String spaced(String sits) {
        return sits.replace('.', '8').replaceAll("(.)", "$1 ").trim();
    }

    private static int who(char told) {
        return told == '.' ? -1 : told - '0';
    }

    private static void besideInARow(Sentences s) {
        s.says(12, "LEFT of a SEAT: BENCH: who sits on the SEAT ahead of it (nobody ahead of 0).");
        dueSides(s, "01234567", Kind.BENCH, ".0123456", "1234567.");
        dueSides(s, "0..1", Kind.BENCH, ".0..", "..1.");
        s.says(12, "RIGHT likewise, the other way.");
        dueSides(s, "7......6", Kind.BENCH, ".7......", "......6.");
        s.says(12, "PEW: likewise, but if that SEAT is there and empty, who sits on the one ahead of that.");
        dueSides(s, "01234567", Kind.PEW, ".0123456", "1234567.");
        dueSides(s, "0......1", Kind.PEW, ".00.....", ".....11.");
        dueSides(s, ".0..1...", Kind.PEW, "..00.11.", "0.11....");
        dueSides(s, "..", Kind.PEW, "..", "..");
        s.says(12, "BED: the nearest one of all who sit ahead of it.");
        dueSides(s, "0......1", Kind.BED, ".0000000", "1111111.");
        dueSides(s, ".2..3...", Kind.BED, "..222333", "2333....");
        dueSides(s, "01234567", Kind.BED, ".0123456", "1234567.");
        dueSides(s, "........", Kind.BED, "........", "........");
        s.says(12, "BOAT, RAFT: as a BENCH.");
        for (int kind : new int[] {Kind.BOAT, Kind.RAFT}) {
            dueSides(s, "01234567", kind, ".0123456", "1234567.");
            dueSides(s, "0.1....2", kind, ".0.1....", ".1....2.");
        }
    }

    private static void besideRound(Sentences s) {
        s.says(12, "RING: as a BENCH, but the SEAT ahead of 0 is the last one.");
        dueSides(s, "01234567", Kind.RING, "70123456", "12345670");
        dueSides(s, "0......1", Kind.RING, "10......", "......10");
        dueSides(s, ".0....1.", Kind.RING, "..0....1", "0....1..");
        dueSides(s, "01", Kind.RING, "10", "10");
        dueSides(s, "0..", Kind.RING, ".0.", "..0");
        s.says(12, "TABLE: as a RING, but if that SEAT is empty, who sits on the next one on (round).");
        dueSides(s, "01234567", Kind.TABLE, "70123456", "12345670");
        dueSides(s, "0.......", Kind.TABLE, ".00.....", "......00");
        dueSides(s, ".......0", Kind.TABLE, "00......", ".....00.");
        dueSides(s, ".0....1.", Kind.TABLE, "1.00...1", "0...11.0");
        dueSides(s, "0..1", Kind.TABLE, "100.", ".110");
        dueSides(s, "01.", Kind.TABLE, "101", "100");
    }

    private static void besideItself(Sentences s) {
        s.says(12, "(A SEAT is never LEFT or RIGHT of itself: then it is nobody.)");
        for (int kind = 0; kind < 7; kind++) {
            dueSides(s, "4", kind, ".", ".");
        }
        dueSides(s, "4.", Kind.TABLE, ".4", ".4");
        dueSides(s, ".4", Kind.TABLE, "4.", "4.");
        dueSides(s, "4.", Kind.RING, ".4", ".4");
        dueSides(s, "4..", Kind.TABLE, ".44", ".44");
    }

    private static void dueWrong(Sentences s, String friends, String sits, int kind, int want) {
        NobodyBetween x = Rooms.with(friends + ";bench seats " + sits.length() + " sits " + spaced(sits));
        x.turn(0, kind);
        s.due("wrong(0) of " + sits + ", kind " + kind + ", " + friends, x.wrong(0), want);
        s.due("HOLDS of it", x.benchOf(0, 4), want == Sentences.NONE ? 1 : 0);
    }

    private static void wrong(Sentences s) {
        s.says(13, "WRONG is a SEAT on which one sits whose LEFT and RIGHT are two unlike PERSONS who are FRIENDS.");
        dueWrong(s, "friends 0 2", "012", Kind.BENCH, 1);
        dueWrong(s, "friends 0 2", "0.2", Kind.BENCH, Sentences.NONE);
        dueWrong(s, "friends 0 2", "0.2", Kind.BED, Sentences.NONE);
        dueWrong(s, "friends 0 1", "012", Kind.BENCH, Sentences.NONE);
        dueWrong(s, "secret 0 2", "012", Kind.BENCH, Sentences.NONE);
        dueWrong(s, "friends 0 7", "0", Kind.BENCH, Sentences.NONE);
        dueWrong(s, "friends 0 1", "01", Kind.BENCH, Sentences.NONE);
        dueWrong(s, "friends 0 2", "01.2", Kind.BENCH, Sentences.NONE);
        dueWrong(s, "friends 0 2", "01.2", Kind.PEW, 1);
        dueWrong(s, "friends 0 2", "0..1..2", Kind.PEW, Sentences.NONE);
        dueWrong(s, "friends 0 2", "0.1.2", Kind.PEW, 2);
        dueWrong(s, "friends 0 2", "0..1...2", Kind.BED, 3);
        s.says(13, "The first WRONG SEAT of a BENCH. BEYOND. NONE.");
        dueWrong(s, "friends 4 6;friends 5 7", "01234567", Kind.BENCH, 5);
        dueWrong(s, "friends 5 7", "01234567", Kind.BENCH, 6);
        dueWrong(s, "friends 5 7;friends 0 2", "01234567", Kind.BENCH, 1);
        dueWrong(s, "friends 5 7;friends 1 7", "01234567", Kind.RING, 0);
        s.beyond(Rooms::furnished, "bench", (x, v) -> x.wrong(v), -1, 3, Integer.MIN_VALUE, Integer.MAX_VALUE);
        s.refused(Rooms::furnished, "none is WRONG", x -> x.wrong(0), Sentences.NONE);
        s.refused(Rooms::full, "nobody sits there", x -> x.wrong(4), Sentences.NONE);
    }

    private static void wrongRound(Sentences s) {
        s.says(13, "two unlike PERSONS");
        dueWrong(s, "friends 1 7", "01234567", Kind.RING, 0);
        dueWrong(s, "friends 1 7", "01234567", Kind.BENCH, Sentences.NONE);
        dueWrong(s, "friends 0 6", "01234567", Kind.RING, 7);
        dueWrong(s, "friends 0 6", "01234567", Kind.TABLE, 7);
        dueWrong(s, "friends 0 1", "01", Kind.RING, Sentences.NONE);
        dueWrong(s, "friends 0 1", "01.", Kind.TABLE, Sentences.NONE);
        dueWrong(s, "friends 0 2", "0.12", Kind.TABLE, 2);
        dueWrong(s, "friends 1 2", "0.12", Kind.TABLE, 0);
        dueWrong(s, "friends 1 2", "0.12", Kind.RING, Sentences.NONE);
        dueWrong(s, "friends 1 2", "0.1.2.", Kind.TABLE, 0);
    }

    private static void sit(Sentences s) {
        s.says(14, "A PERSON sits down on a SEAT, and rises from where this one sat");
        s.range(Rooms::furnished, "person", 0, 7, (x, v) -> x.sit(v, 2, 7));
        s.range(Rooms::furnished, "bench", 0, 2, (x, v) -> x.sit(7, v, v == 2 ? 2 : 1));
        s.range(Rooms::furnished, "seat of 3", 0, 2, (x, v) -> x.sit(4, 1, v));
        s.range(Rooms::furnished, "seat of 8", 0, 7, (x, v) -> x.sit(5, 2, v));
        s.says(14, "a PERSON sits on one SEAT at most.");
        NobodyBetween x = Rooms.with("bench seats 8;ring seats 8;pew seats 1");
        for (int seat = 0; seat < 8; seat++) {
            x.sit(7, 0, seat);
            s.due("one sits", x.count(1), 1);
            s.due("there", x.where(7), seat);
            x.sit(7, 1, seat);
            s.due("one sits", x.count(1), 1);
            s.due("there", x.where(7), 10 + seat);
        }
        x.sit(7, 2, 0);
        s.dueRow("on the only SEAT", x, 2, "7");
        s.dueRow("no more on the last SEAT", x, 1, "........");
    }

    private static void sitElsewhere(Sentences s) {
        s.says(14, ": 1 if the BENCH HOLDS then, else 0.");
        NobodyBetween x = Rooms.with("friends 0 2;bench seats 3 sits 0 8 2;boat seats 2 sits 4 5;bench seats 1;held 9");
        s.due("between two FRIENDS", x.sit(1, 0, 1), 0);
        s.due("the BENCH that is left HOLDS not: no matter", x.sit(4, 2, 0), 1);
        s.due("so it is", x.benchOf(1, 4), 0);
        s.due("back", x.sit(4, 1, 0), 1);
        s.due("one of the two FRIENDS goes", x.sit(2, 2, 0), 1);
        s.due("and comes", x.sit(2, 0, 2), 0);
        s.due("on this one's own SEAT", x.sit(1, 0, 1), 0);
        s.due("on this one's own SEAT", x.sit(5, 1, 1), 1);
        s.says(14, "BEYOND.");
        s.refused(Rooms::furnished, "BEYOND ahead of STATE", y -> y.sit(8, 0, 0), Sentences.BEYOND);
        s.refused(Rooms::furnished, "no such SEAT of this BENCH", y -> y.sit(4, 1, 3), Sentences.BEYOND);
        s.says(14, "STATE: another one sits there.");
        s.refused(Rooms::furnished, "one who sits nowhere", y -> y.sit(7, 0, 0), Sentences.STATE);
        s.refused(Rooms::furnished, "one of the same BENCH", y -> y.sit(2, 0, 0), Sentences.STATE);
        s.refused(Rooms::furnished, "one of another BENCH", y -> y.sit(4, 2, 1), Sentences.STATE);
        s.taken(Rooms::furnished, "the one who sits there", y -> y.sit(0, 0, 0));
    }

    private static void rise(Sentences s) {
        s.says(15, "A PERSON rises: 1; 0 if this one sat nowhere.");
        NobodyBetween x = Rooms.with("bench seats 8 sits 0 1 2 3 4 5 6 7");
        for (int person = 0; person < 8; person++) {
            s.due("who sits", x.rise(person), 1);
            s.due("who sits no more", x.rise(person), 0);
            s.due("how many still sit", x.count(1), 7 - person);
        }
        s.due("no finding", x.status(-1), 0);
        s.says(15, "BEYOND.");
        s.range(Rooms::furnished, "person", 0, 7, (y, v) -> y.rise(v));
    }

    private static void where(Sentences s) {
        s.says(16, "Where a PERSON sits: 10 times the BENCH, and the SEAT.");
        NobodyBetween x = new NobodyBetween();
        for (int bench = 0; bench < 5; bench++) {
            x.bench(bench, 8);
        }
        for (int bench = 0; bench < 5; bench++) {
            for (int seat = 0; seat < 8; seat++) {
                x.sit(seat, bench, seat);
                s.due("where(" + seat + ")", x.where(seat), 10 * bench + seat);
            }
        }
        s.says(16, "BEYOND. NONE: nowhere.");
        s.beyond(Rooms::furnished, "person", (y, v) -> y.where(v), -1, 8, Integer.MIN_VALUE, Integer.MAX_VALUE);
        s.refused(Rooms::furnished, "who never sat", y -> y.where(7), Sentences.NONE);
        s.refused(y -> {
            Rooms.furnished(y);
            y.rise(4);
        }, "who rose", y -> y.where(4), Sentences.NONE);
    }
}
