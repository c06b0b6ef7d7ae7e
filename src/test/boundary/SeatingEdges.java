/** Promises 17 to 25: asking, seatings. */
final class SeatingEdges {
    private SeatingEdges() {
    }

    static void run(Sentences s) {
        may(s);
        mayHold(s);
        kind(s);
        draws(s);
        come(s);
        seatings(s);
        seatingsThatHold(s);
        seatingsRefused(s);
        layInOrder(s);
        lay(s);
        layRefused(s);
        most(s);
        frees(s);
        freesRefused(s);
        often(s);
        needs(s);
        needsRefused(s);
    }

    private static void befriend(NobodyBetween x, int... persons) {
        for (int one : persons) {
            for (int other : persons) {
                if (one != other) {
                    x.friends(one, other, 1);
                }
            }
        }
    }

    private static void may(Sentences s) {
        s.says(17, "SEATS of a BENCH, free ones or that of the PERSON");
        NobodyBetween x = Rooms.with("bench seats 8;pew seats 1;bench seats 4 sits 0 8 1");
        s.due("all of 8", x.may(7, 0), 255);
        s.due("the only one", x.may(7, 1), 1);
        s.due("free ones", x.may(7, 2), 10);
        s.due("free ones, or its own", x.may(0, 2), 11);
        s.due("from another BENCH", x.may(1, 0), 255);
        NobodyBetween full = Rooms.with("bench seats 7 sits 0 1 2 3 4 5 6;bench seats 1 sits 7");
        s.due("none is free", full.may(7, 0), 0);
        s.due("its own alone", full.may(6, 0), 64);
        s.due("its own alone", full.may(0, 0), 1);
        s.due("its own alone", full.may(7, 1), 1);
        s.due("none is free", full.may(0, 1), 0);
        s.due("no finding", full.status(-1), 0);
        s.says(17, "BEYOND.");
        s.range(Rooms::furnished, "person", 0, 7, (y, v) -> y.may(v, 0));
        s.range(Rooms::furnished, "bench", 0, 2, (y, v) -> y.may(7, v));
    }

    private static void mayHold(Sentences s) {
        s.says(17, ", on which a PERSON (risen from where this one sits) may sit so that it HOLDS then, as a set.");
        NobodyBetween x = Rooms.with("friends 0 2;bench seats 4 sits 0 1 2");
        s.due("it HOLDS not, whoever comes", x.may(3, 0), 0);
        s.due("risen, 1 may sit behind them", x.may(1, 0), 8);
        s.due("risen, 0 may sit behind them", x.may(0, 0), 8);
        s.due("risen, 2 may sit behind an empty SEAT", x.may(2, 0), 8);
        s.dueRow("all sit as they did", x, 0, "012.");
        NobodyBetween boat = Rooms.with("boat seats 8;boat seats 7");
        int[][] heldAndDue = {{0, 0, 8}, {9, 0, 8}, {10, 24, 8}, {19, 24, 8}, {20, 24, 28}, {69, 126, 127},
            {70, 255, 127}};
        for (int[] due : heldAndDue) {
            boat.held(due[0]);
            s.due("BOAT of 8, HELD " + due[0], boat.may(0, 0), due[1]);
            s.due("BOAT of 7, HELD " + due[0], boat.may(0, 1), due[2]);
        }
        boat.turn(0, Kind.RAFT);
        boat.held(34);
        s.due("RAFT of 8, HELD 34", boat.may(0, 0), 126);
        boat.held(35);
        s.due("RAFT of 8, HELD 35", boat.may(0, 0), 255);
        NobodyBetween two = Rooms.with("boat seats 2 sits 0 1;held 9");
        s.due("it HOLDS with this one alone", two.may(0, 0), 1);
        s.asked(Rooms::furnished, "may(4, 2)", y -> y.may(4, 2), 252);
    }

    private static void kind(Sentences s) {
        s.says(18, "Of these the one with which most others who sit nowhere have a SEAT to ask for on this BENCH then"
                + " (each for itself);");
        String text = "friends 2 3;friends 1 4;friends 1 5;bench seats 4 sits 1 2";
        NobodyBetween x = Rooms.with(text);
        s.due("at 2: 4, 5, 6 and 7; at 3: 3, 6 and 7", x.kind(0, 0), 2);
        Rooms.tell(x, "bench seats 2 sits 4 5");
        s.due("4 and 5 sit elsewhere", x.kind(0, 0), 3);
        s.dueRow("nobody moves", x, 0, "12..");
        for (int other : new int[] {0, 7}) {
            NobodyBetween one = Rooms.with("friends 2 " + other + ";bench seats 4 sits 1 2;bench seats 4 sits 3 4 5 6");
            s.due("at 2 none; at 3 " + other + " alone", one.kind(7 - other, 0), 3);
            one.friends(1, other, 1);
            s.due("none at either", one.kind(7 - other, 0), 2);
        }
        s.says(18, "of several the least.");
        NobodyBetween y = Rooms.with("bench seats 8;bench seats 1");
        s.due("all are alike", y.kind(0, 0), 0);
        s.due("the only one", y.kind(0, 1), 0);
        NobodyBetween alone = Rooms.with("friends 0 7;ring seats 4 sits 8 8 7;bench seats 6 sits 1 2 3 4 5 6");
        s.due("no others sit nowhere, and this one is none of them", alone.kind(0, 0), 0);
        NobodyBetween full = Rooms.with("bench seats 8 sits 1 2 3 4 5 6 7");
        s.due("the last one, nobody else is left", full.kind(0, 0), 7);
        full.sit(0, 0, 7);
        s.due("its own, nobody else is left", full.kind(0, 0), 7);
        s.due("its own, the first", full.kind(1, 0), 0);
        s.says(18, "BEYOND.");
        s.range(Rooms::furnished, "person", 0, 7, (z, v) -> z.kind(v, 0));
        s.range(Rooms::furnished, "bench", 0, 2, (z, v) -> z.kind(7, v));
        s.says(18, "NONE: this one may sit on none.");
        s.refused(z -> {
            Rooms.full(z);
            z.sit(7, 3, 0);
        }, "none is free", z -> z.kind(6, 3), Sentences.NONE);
        s.refused(Rooms.telling("friends 0 2;bench seats 4 sits 0 1 2"), "it HOLDS not", z -> z.kind(3, 0),
                Sentences.NONE);
        s.refused(Rooms.telling("boat seats 8;held 9"), "it would list", z -> z.kind(3, 0), Sentences.NONE);
    }

    private static void draws(Sentences s) {
        s.says(19, "DRAWS: z is told (1 at first); each makes it z * 1103515245 + 12345 (an int), and gives z >>> 8.");
        NobodyBetween x = Rooms.with("bench seats 8");
        s.due("z at first", x.count(6), 1);
        int[] due = {1103527590, -1770082073, 662824084};
        for (int z : due) {
            x.come(0, 1);
            s.due("z", x.count(6), z);
        }
        s.dueRow("4310654, 9862832, 2589156 by 8", x, 0, "604.....");
        s.says(19, "Quotients are cut.");
        int[] seeds = {Integer.MIN_VALUE, Integer.MIN_VALUE + 1, -1000001, -2, -1, 0, 1, 2, 3, Integer.MAX_VALUE};
        for (int seed : seeds) {
            NobodyBetween y = Rooms.with("bench seats 1");
            y.seed(seed);
            long z = (seed * 1103515245L + 12345L) & 0xFFFFFFFFL;
            s.due("one comes", y.come(0, 1), 1);
            s.due("the rest of a draw from " + seed, y.seat(0, 0), (int) (z / 256 % 8));
            s.due("z then", y.count(6), (int) z);
        }
    }

    private static void come(Sentences s) {
        s.says(19, "n PERSONS (1 to 20; each the rest of a draw by 8)");
        s.range(Rooms::furnished, "n", 1, 20, (x, v) -> x.come(0, v));
        for (int n : new int[] {1, 2, 19, 20}) {
            NobodyBetween x = Rooms.with("bench seats 1 sits 0");
            int z = 1;
            for (int i = 0; i < n; i++) {
                z = z * 1103515245 + 12345;
            }
            s.due("none is free", x.come(0, n), 0);
            s.due("z behind " + n + " draws", x.count(6), z);
        }
        s.says(19, "come to a BENCH one after another; each who sits nowhere sits down on the least SEAT on which this"
                + " one may: how many did.");
        NobodyBetween elsewhere = Rooms.with("bench seats 8;bench seats 1 sits 6");
        s.due("6 sits elsewhere, 0 and 4 come", elsewhere.come(0, 3), 2);
        s.dueRow("from the least on", elsewhere, 0, "04......");
        s.dueRow("6 stays", elsewhere, 1, "6");
        NobodyBetween three = Rooms.with("friends 4 6;bench seats 3");
        s.due("6 and 0, but 4 would have 0 between", three.come(0, 3), 2);
        s.dueRow("6 and 0", three, 0, "60.");
        NobodyBetween four = Rooms.with("friends 4 6;bench seats 4");
        s.due("6, 0 and 4", four.come(0, 3), 3);
        s.dueRow("4 on the least that does", four, 0, "60.4");
        NobodyBetween all = Rooms.with("bench seats 8");
        all.come(0, 20);
        all.come(0, 20);
        all.come(0, 20);
        s.due("all sit", all.count(1), 8);
        s.due("nobody more", all.come(0, 20), 0);
        s.says(19, "BEYOND.");
        s.range(Rooms::furnished, "bench", 0, 2, (x, v) -> x.come(v, 20));
    }

    private static void seatings(Sentences s) {
        s.says(20, "A SEATING of a set on a BENCH (as if nobody sat there or on another one)");
        NobodyBetween x = Rooms.with("bench seats 3 sits 7 6 5;ring seats 3 sits 0 1 2");
        s.due("others sit there", x.seatings(0, 7), 6);
        s.due("they sit there", x.seatings(1, 7), 6);
        s.due("of those who sit there", x.seatings(0, 224), 6);
        s.says(20, "all of the set on its SEATS, as many as there are in the set (others nobody; the set has no more"
                + " than SEATS, 6 at most)");
        for (int seats = 1; seats <= 8; seats++) {
            NobodyBetween y = new NobodyBetween();
            y.bench(seats % 2 == 0 ? Kind.PEW : Kind.TABLE, seats);
            int ways = 1;
            for (int many = 0; many <= 7; many++) {
                int want = many > seats || many > 6 ? Sentences.SIZE : ways;
                s.due(many + " on " + seats, y.seatings(0, (1 << many) - 1), want);
                ways *= seats - many;
            }
        }
        s.says(20, "How many SEATINGS there are of a set on a BENCH.");
        for (int kind = 0; kind < 7; kind++) {
            NobodyBetween y = new NobodyBetween();
            y.bench(kind, 3);
            y.held(0);
            s.due("nobody, kind " + kind, y.seatings(0, 0), 1);
        }
        s.asked(Rooms::furnished, "seatings(1, 52)", y -> y.seatings(1, 52), 6);
    }

    private static void seatingsThatHold(Sentences s) {
        s.says(20, ", so that it HOLDS.");
        NobodyBetween x = Rooms.with("friends 0 1;bench seats 3;bench seats 4");
        int[][] due = {{Kind.BENCH, 4, 20}, {Kind.PEW, 4, 16}, {Kind.BED, 4, 16}, {Kind.RING, 0, 16}, {Kind.TABLE, 0, 0}};
        for (int[] row : due) {
            x.turn(0, row[0]);
            x.turn(1, row[0]);
            s.due("3 on 3, kind " + row[0], x.seatings(0, 7), row[1]);
            s.due("3 on 4, kind " + row[0], x.seatings(1, 7), row[2]);
        }
        s.due("none is no finding", x.status(-1), 0);
        NobodyBetween boat = Rooms.with("boat seats 2;boat seats 3;raft seats 2");
        int[][] held = {{0, 0, 1, 0}, {4, 0, 1, 0}, {5, 0, 1, 2}, {9, 0, 1, 2}, {10, 2, 1, 2}, {19, 2, 1, 2},
            {20, 2, 3, 2}};
        for (int[] row : held) {
            boat.held(row[0]);
            for (int bench = 0; bench < 3; bench++) {
                s.due("one on BENCH " + bench + ", HELD " + row[0], boat.seatings(bench, 1), row[1 + bench]);
            }
        }
    }

    private static void seatingsRefused(Sentences s) {
        s.says(20, "BEYOND: no such BENCH, set (0 to 255).");
        s.range(Rooms::furnished, "bench", 0, 2, (x, v) -> x.seatings(v, 7));
        s.beyond(Rooms::furnished, "set", (x, v) -> x.seatings(0, v), -1, 256, 257, -256, 65536, Integer.MIN_VALUE,
                Integer.MAX_VALUE);
        s.taken(Rooms::furnished, "set 0", x -> x.seatings(0, 0));
        s.taken(Rooms::furnished, "set 240", x -> x.seatings(0, 240));
        s.refused(Rooms::furnished, "BEYOND ahead of SIZE", x -> x.seatings(3, 255), Sentences.BEYOND);
        s.refused(Rooms::furnished, "BEYOND ahead of SIZE", x -> x.seatings(0, 511), Sentences.BEYOND);
        s.says(20, "SIZE: there are more than SEATS, or than 6.");
        s.taken(Rooms::furnished, "4 on 4", x -> x.seatings(0, 15));
        s.refused(Rooms::furnished, "5 on 4", x -> x.seatings(0, 31), Sentences.SIZE);
        s.refused(Rooms::full, "2 on 1", x -> x.seatings(3, 129), Sentences.SIZE);
        s.taken(Rooms::furnished, "6 on 8", x -> x.seatings(2, 252));
        s.refused(Rooms::furnished, "7 on 8", x -> x.seatings(2, 254), Sentences.SIZE);
        s.refused(Rooms::furnished, "8 on 8", x -> x.seatings(2, 255), Sentences.SIZE);
    }

    private static void layInOrder(Sentences s) {
        s.says(21, "SEATINGS are in order by who sits on SEAT 0, 1, ..: nobody first, then by numbers.");
        NobodyBetween x = Rooms.with("bench seats 3");
        String[] rows = {".25", ".52", "2.5", "25.", "5.2", "52."};
        for (int i = 0; i < rows.length; i++) {
            s.due("lay(0, 36, " + i + ")", x.lay(0, 36, i), 1);
            s.dueRow("number " + i, x, 0, rows[i]);
        }
        NobodyBetween ring = Rooms.with("friends 2 5;ring seats 4");
        String[] thatHold = {".257", ".527", ".725", ".752", "2.75"};
        for (int i = 0; i < thatHold.length; i++) {
            ring.lay(0, 164, i);
            s.dueRow("those that HOLD not are left out, number " + i, ring, 0, thatHold[i]);
        }
        s.says(21, "The i-th of these (from 0) sits");
        NobodyBetween y = Rooms.with("bench seats 8;bench seats 1");
        s.due("the first of 20160", y.lay(0, 252, 0), 1);
        s.dueRow("the first", y, 0, "..234567");
        s.due("the last of 20160", y.lay(0, 252, 20159), 1);
        s.dueRow("the last", y, 0, "765432..");
        s.due("the only one", y.lay(1, 128, 0), 1);
        s.dueRow("the only one", y, 1, "7");
        s.dueRow("from where it sat", y, 0, ".65432..");
    }

    private static void lay(Sentences s) {
        s.says(21, ": all others rise from this BENCH, those of the set from where they sat: 1.");
        NobodyBetween x = Rooms.with("bench seats 3 sits 3 0 4;pew seats 3 sits 1 5 2");
        s.due("0 and 1", x.lay(0, 3, 5), 1);
        s.dueRow("3 and 4 rise", x, 0, "10.");
        s.dueRow("1 rises, 5 and 2 stay", x, 1, ".52");
        s.due("as it is", x.lay(0, 3, 5), 1);
        s.dueRow("all sit as they did", x, 0, "10.");
        NobodyBetween ends = Rooms.with("bench seats 2 sits 3 4;pew seats 4 sits 0 6 7 1");
        s.due("0 and 7", ends.lay(0, 129, 1), 1);
        s.dueRow("3 and 4 rise", ends, 0, "70");
        s.dueRow("0 and 7 rise, 6 and 1 stay", ends, 1, ".6.1");
        s.due("nobody", x.lay(0, 0, 0), 1);
        s.dueRow("all rise", x, 0, "...");
        s.dueRow("all stay", x, 1, ".52");
    }

    private static void layRefused(Sentences s) {
        s.says(21, "BEYOND: also i below 0.");
        s.range(Rooms::furnished, "bench", 0, 2, (x, v) -> x.lay(v, 132, 0));
        s.beyond(Rooms::furnished, "set", (x, v) -> x.lay(0, v, 0), -1, 256, Integer.MIN_VALUE, Integer.MAX_VALUE);
        s.beyond(Rooms::furnished, "i", (x, v) -> x.lay(0, 3, v), -1, -2, Integer.MIN_VALUE);
        s.taken(Rooms::furnished, "i 0", x -> x.lay(0, 3, 0));
        s.refused(Rooms::furnished, "BEYOND ahead of SIZE", x -> x.lay(0, 255, -1), Sentences.BEYOND);
        s.says(21, "SIZE (as of seatings()).");
        s.taken(Rooms::furnished, "4 on 4", x -> x.lay(0, 180, 0));
        s.refused(Rooms::furnished, "5 on 4", x -> x.lay(0, 31, 0), Sentences.SIZE);
        s.taken(Rooms::furnished, "6 on 8", x -> x.lay(2, 252, 0));
        s.refused(Rooms::furnished, "7 on 8", x -> x.lay(2, 127, 0), Sentences.SIZE);
        s.refused(Rooms::furnished, "SIZE ahead of NONE", x -> x.lay(0, 255, Integer.MAX_VALUE), Sentences.SIZE);
        s.says(21, "NONE: there are not so many.");
        s.taken(Rooms::furnished, "the last of 24", x -> x.lay(0, 180, 23));
        s.refused(Rooms::furnished, "the 25th of 24", x -> x.lay(0, 180, 24), Sentences.NONE);
        s.refused(Rooms::furnished, "far on", x -> x.lay(0, 180, Integer.MAX_VALUE), Sentences.NONE);
        s.refused(Rooms::furnished, "another one of nobody", x -> x.lay(0, 0, 1), Sentences.NONE);
        s.refused(Rooms.telling("friends 0 1;ring seats 3 sits 0 8 1"), "the first of none", x -> x.lay(0, 7, 0),
                Sentences.NONE);
        NobodyBetween x = Rooms.with("bench seats 8");
        s.due("the 20161st of 20160", x.lay(0, 63, 20160), Sentences.NONE);
    }

    private static void most(Sentences s) {
        s.says(22, "The greatest subset of a set that has a SEATING on a BENCH; of several with as many the least.");
        NobodyBetween x = Rooms.with("bench seats 1;bench seats 8;boat seats 2;held 0;friends 0 1;friends 1 2;"
                + "friends 0 2;ring seats 3");
        s.due("of nobody", x.most(0, 0), 0);
        s.due("one of 6", x.most(0, 252), 4);
        s.due("all 6", x.most(1, 252), 252);
        s.due("one alone would list: nobody", x.most(2, 128), 0);
        s.due("two of one WEIGHT", x.most(2, 140), 12);
        s.due("two of three friends", x.most(3, 7), 3);
        s.due("any two of these would do", x.most(3, 11), 3);
        s.due("no finding", x.status(-1), 0);
        s.says(22, "Sets are told as bits; of several that would do the least number counts, where nothing else is"
                + " told.");
        NobodyBetween y = Rooms.with("boat seats 2;held 0;weight 0 1;weight 1 2;weight 2 2;weight 3 1");
        s.due("1 and 2, though 0 is in 0 and 3", y.most(0, 15), 6);
        s.due("0 and 3", y.most(0, 11), 9);
        s.says(22, "BEYOND.");
        s.range(Rooms::furnished, "bench", 0, 2, (z, v) -> z.most(v, 7));
        s.beyond(Rooms::furnished, "set", (z, v) -> z.most(0, v), -1, 256, 319, Integer.MIN_VALUE, Integer.MAX_VALUE);
        s.says(22, "SIZE: the set has more than 6.");
        s.asked(Rooms::full, "6 on 1", z -> z.most(3, 63), 1);
        s.refused(Rooms::furnished, "7 on 8", z -> z.most(2, 127), Sentences.SIZE);
        s.refused(Rooms::furnished, "8 on 8", z -> z.most(2, 255), Sentences.SIZE);
        s.refused(Rooms::furnished, "BEYOND ahead of SIZE", z -> z.most(3, 255), Sentences.BEYOND);
    }

    private static void frees(Sentences s) {
        s.says(23, "The pair of FRIENDS (as they count now) both in a set by whose quarrel (if they weren't) most"
                + " SEATINGS of it would be there");
        NobodyBetween boat = Rooms.with("boat seats 3;weight 1 20;held 0;friends 0 1;friends 0 2");
        s.due("1 sits in the middle: 0 and 2 alone matter", boat.frees(0, 7), 2);
        s.due("0 and 2 alone are in it", boat.frees(0, 5), 2);
        NobodyBetween secret = Rooms.with("boat seats 3;weight 1 20;held 0;friends 0 1;secret 0 2");
        s.due("SECRET ones count not", secret.frees(0, 7), 1);
        secret.over(true);
        s.due("SECRET ones count", secret.frees(0, 7), 2);
        s.due("they still are", secret.are(0, 2), 2);
        s.says(23, ": 10 times the lesser number, and the other one;");
        for (int one = 0; one < 8; one++) {
            for (int other = one + 1; other < 8; other++) {
                NobodyBetween x = Rooms.with("bench seats 3;friends " + other + " " + one);
                s.due("the only pair", x.frees(0, 1 << one | 1 << other), 10 * one + other);
            }
        }
        s.says(23, "of several the least.");
        NobodyBetween all = Rooms.with("bench seats 3;ring seats 3");
        befriend(all, 0, 1, 2, 3, 4, 5, 6, 7);
        s.due("each as much", all.frees(0, 7), 1);
        s.due("none frees any", all.frees(1, 7), 1);
        s.due("each as much", all.frees(0, 224), 56);
        s.asked(Rooms::furnished, "frees(0, 3)", x -> x.frees(0, 3), 1);
    }

    private static void freesRefused(Sentences s) {
        s.says(23, "BEYOND.");
        s.range(Rooms::furnished, "bench", 0, 2, (x, v) -> x.frees(v, 3));
        s.beyond(Rooms::furnished, "set", (x, v) -> x.frees(0, v), -1, 256, 259, Integer.MIN_VALUE,
                Integer.MAX_VALUE);
        s.says(23, "SIZE (as of seatings()).");
        s.taken(Rooms::furnished, "4 on 4", x -> x.frees(0, 15));
        s.refused(Rooms::furnished, "5 on 4", x -> x.frees(0, 31), Sentences.SIZE);
        s.taken(Rooms::furnished, "6 on 8", x -> x.frees(2, 63));
        s.refused(Rooms::furnished, "7 on 8", x -> x.frees(2, 127), Sentences.SIZE);
        s.refused(Rooms::full, "SIZE ahead of NONE", x -> x.frees(3, 48), Sentences.SIZE);
        s.says(23, "NONE: there is no such pair.");
        s.refused(Rooms::furnished, "of nobody", x -> x.frees(0, 0), Sentences.NONE);
        s.refused(Rooms::furnished, "the one of them", x -> x.frees(0, 1), Sentences.NONE);
        s.refused(Rooms::furnished, "the other of them", x -> x.frees(0, 2), Sentences.NONE);
        s.refused(Rooms::furnished, "no FRIENDS", x -> x.frees(0, 5), Sentences.NONE);
        s.refused(x -> {
            Rooms.furnished(x);
            x.over(false);
        }, "SECRET ones, not OVER", x -> x.frees(0, 12), Sentences.NONE);
    }

    private static void often(Sentences s) {
        s.says(24, "Of all SEATINGS of a set on a BENCH: in how many a PERSON of it sits on a SEAT.");
        NobodyBetween x = Rooms.with("bench seats 1;bench seats 8;friends 0 1;bench seats 3;boat seats 3;held 0");
        s.due("the only one", x.often(0, 128, 7, 0), 1);
        s.due("6 on 8, the first", x.often(1, 252, 2, 0), 2520);
        s.due("6 on 8, the last", x.often(1, 252, 7, 7), 2520);
        int[][] rows = {{1, 2, 1}, {1, 2, 1}, {2, 0, 2}};
        for (int person = 0; person < 3; person++) {
            for (int seat = 0; seat < 3; seat++) {
                s.due(person + " on " + seat, x.often(2, 7, person, seat), rows[person][seat]);
            }
        }
        s.due("all of them are there still", x.seatings(2, 7), 4);
        s.due("BOAT, at its end", x.often(3, 16, 4, 2), 0);
        s.due("BOAT, in the middle", x.often(3, 16, 4, 1), 1);
        s.asked(Rooms::furnished, "often(1, 48, 5, 2)", y -> y.often(1, 48, 5, 2), 2);
        s.says(24, "BEYOND: also one not in the set.");
        s.range(Rooms::furnished, "bench", 0, 2, (y, v) -> y.often(v, 3, 0, 0));
        s.range(Rooms::furnished, "person of 0 to 5", 0, 5, (y, v) -> y.often(2, 63, v, 0));
        s.range(Rooms::furnished, "person of 2 to 7", 2, 7, (y, v) -> y.often(2, 252, v, 0));
        s.range(Rooms::furnished, "seat of 4", 0, 3, (y, v) -> y.often(0, 3, 0, v));
        s.range(Rooms::furnished, "seat of 8", 0, 7, (y, v) -> y.often(2, 3, 0, v));
        s.beyond(Rooms::furnished, "set", (y, v) -> y.often(0, v, 0, 0), 0, 2, 254, 256, 257, -1, Integer.MIN_VALUE,
                Integer.MAX_VALUE);
        s.refused(Rooms::furnished, "BEYOND ahead of SIZE", y -> y.often(0, 127, 7, 0), Sentences.BEYOND);
        s.refused(Rooms::furnished, "BEYOND ahead of SIZE", y -> y.often(0, 127, 0, 4), Sentences.BEYOND);
        s.says(24, "SIZE (as of seatings()).");
        s.taken(Rooms::furnished, "4 on 4", y -> y.often(0, 15, 0, 3));
        s.refused(Rooms::furnished, "5 on 4", y -> y.often(0, 31, 0, 3), Sentences.SIZE);
        s.taken(Rooms::furnished, "6 on 8", y -> y.often(2, 63, 0, 7));
        s.refused(Rooms::furnished, "7 on 8", y -> y.often(2, 127, 0, 7), Sentences.SIZE);
        s.refused(Rooms::furnished, "8 on 8", y -> y.often(2, 255, 0, 7), Sentences.SIZE);
    }

    private static void needs(Sentences s) {
        s.says(25, "The least number of SEATS (1 to 8) that a BENCH like this one would have to have, that a set has a"
                + " SEATING.");
        NobodyBetween x = Rooms.with("bench seats 1;bench seats 8;held 0");
        for (int bench = 0; bench < 2; bench++) {
            s.due("nobody", x.needs(bench, 0), 1);
            s.due("one", x.needs(bench, 128), 1);
            s.due("6", x.needs(bench, 63), 6);
        }
        befriend(x, 0, 1, 2, 3, 4, 5);
        int[][] due = {{Kind.BENCH, 6, 8}, {Kind.BENCH, 5, 7}, {Kind.BENCH, 3, 4}, {Kind.BENCH, 2, 2}, {Kind.PEW, 4, 6}, {Kind.PEW, 3, 5},
            {Kind.RING, 5, 8}, {Kind.RING, 4, 6}, {Kind.RING, 2, 2}, {Kind.TABLE, 4, 8}, {Kind.TABLE, 3, 7}, {Kind.TABLE, 2, 2}, {Kind.BED, 2, 2},
            {Kind.BOAT, 6, 8}, {Kind.RAFT, 6, 8}, {Kind.BOAT, 1, 1}};
        for (int[] row : due) {
            x.turn(0, row[0]);
            s.due(row[1] + " friends, kind " + row[0], x.needs(0, (1 << row[1]) - 1), row[2]);
        }
        NobodyBetween raft = Rooms.with("raft seats 1;boat seats 1;held 5;weight 0 20");
        s.due("a RAFT of 2 lists by 10", raft.needs(0, 3), 2);
        s.due("a BOAT of 2 lists by 10, of 3 not by 20 and 20", raft.needs(1, 3), 5);
        s.due("no finding", x.status(-1) + raft.status(-1), 0);
        s.asked(Rooms::furnished, "needs(1, 56)", y -> y.needs(1, 56), 3);
    }

    private static void needsRefused(Sentences s) {
        s.says(25, "BEYOND.");
        s.range(Rooms::furnished, "bench", 0, 2, (x, v) -> x.needs(v, 3));
        s.beyond(Rooms::furnished, "set", (x, v) -> x.needs(0, v), -1, 256, Integer.MIN_VALUE, Integer.MAX_VALUE);
        s.refused(Rooms::furnished, "BEYOND ahead of SIZE", x -> x.needs(3, 255), Sentences.BEYOND);
        s.says(25, "SIZE: the set has more than 6.");
        s.taken(Rooms::full, "6, on 1", x -> x.needs(3, 252));
        s.refused(Rooms::furnished, "7, on 8", x -> x.needs(2, 254), Sentences.SIZE);
        s.refused(Rooms::furnished, "8, on 8", x -> x.needs(2, 255), Sentences.SIZE);
        s.says(25, "NONE: also with 8 it hasn't.");
        int[][] none = {{Kind.BED, 3}, {Kind.PEW, 5}, {Kind.RING, 6}, {Kind.TABLE, 5}};
        for (int[] row : none) {
            s.refused(x -> {
                x.bench(row[0], 8);
                befriend(x, 0, 1, 2, 3, 4, 5);
            }, row[1] + " friends, kind " + row[0], x -> x.needs(0, (1 << row[1]) - 1), Sentences.NONE);
        }
        s.refused(Rooms.telling("boat seats 8;held 0;weight 0 99"), "a BOAT that lists always", x -> x.needs(0, 3),
                Sentences.NONE);
    }
}
