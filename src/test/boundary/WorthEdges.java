/** Promises 26 to 32: what a seating is worth, and shows. */
final class WorthEdges {
    private WorthEdges() {
    }

    static void run(Sentences s) {
        gain(s);
        worth(s);
        exchange(s);
        exchangeHolds(s);
        shows(s);
        showsRefused(s);
        course(s);
        turns(s);
        seed(s);
    }

    private static void gain(Sentences s) {
        s.says(26, "GAIN of one who sits: how many FRIENDS (OVER or not, SECRET ones too) sit on the SEATS beside"
                + " (LEFT and RIGHT of a BENCH of KIND 0, whatever the KIND).");
        for (int kind = 0; kind < 7; kind++) {
            for (int over = 0; over < 2; over++) {
                NobodyBetween x = Rooms.with("friends 0 1;secret 1 2;friends 2 3;secret 3 0;bench seats 5 sits 0 1 2 8 3");
                x.turn(0, kind);
                x.over(over == 1);
                s.due("one", x.gain(0), 1);
                s.due("both", x.gain(1), 2);
                s.due("a SECRET one", x.gain(2), 1);
                s.due("behind an empty SEAT, round the end: none", x.gain(3), 0);
            }
        }
        NobodyBetween alone = Rooms.with("friends 0 1;ring seats 1 sits 0;ring seats 1 sits 1");
        s.due("the only SEAT", alone.gain(0), 0);
        NobodyBetween two = Rooms.with("friends 0 1;ring seats 2 sits 0 1;bench seats 2 sits 2 3");
        s.due("not twice round a RING of 2", two.gain(0), 1);
        s.due("not twice round a RING of 2", two.gain(1), 1);
        s.due("no friends", two.gain(2), 0);
        s.says(26, "GAIN of a PERSON. BEYOND.");
        s.beyond(Rooms::furnished, "person", (x, v) -> x.gain(v), -1, 8, 32, -32, Integer.MIN_VALUE,
                Integer.MAX_VALUE);
        s.taken(Rooms::furnished, "person 0", x -> x.gain(0));
        s.asked(y -> {
            Rooms.furnished(y);
            y.sit(7, 1, 2);
        }, "person 7", y -> y.gain(7), 0);
        s.says(26, "STATE: this one sits nowhere.");
        s.refused(Rooms::furnished, "who sits nowhere", x -> x.gain(7), Sentences.STATE);
        s.refused(Rooms::bare, "no BENCH at all", x -> x.gain(0), Sentences.STATE);
    }

    private static void worth(Sentences s) {
        s.says(27, "GAINS of all who sit on a BENCH, together.");
        NobodyBetween x = Rooms.with("ring seats 8;bench seats 1");
        for (int one = 0; one < 8; one++) {
            for (int other = 0; other < one; other++) {
                x.friends(one, other, 1 + (one + other) % 2);
            }
        }
        s.due("nobody", x.worth(0), 0);
        x.sit(7, 0, 7);
        s.due("one alone", x.worth(0), 0);
        x.sit(0, 0, 0);
        s.due("not round", x.worth(0), 0);
        x.sit(6, 0, 6);
        s.due("two beside", x.worth(0), 2);
        for (int person = 0; person < 8; person++) {
            x.sit(person, 0, person);
        }
        s.due("all 8", x.worth(0), 14);
        x.sit(3, 1, 0);
        s.due("one in the middle is away", x.worth(0), 10);
        s.due("this BENCH alone", x.worth(1), 0);
        s.says(27, "BEYOND.");
        s.range(Rooms::furnished, "bench", 0, 2, (y, v) -> y.worth(v));
    }

    private static void dueExchange(Sentences s, String text, int want, String row) {
        NobodyBetween x = Rooms.with(text);
        s.due("exchange(0) of " + text, x.exchange(0), want);
        s.dueRow("then", x, 0, row);
    }

    private static void exchange(Sentences s) {
        s.says(28, "The first two (the lesser number, then the other one) on a BENCH who, changing SEATS, would both"
                + " GAIN more");
        dueExchange(s, "bench seats 5 sits 0 2 8 1 3;friends 0 3;friends 1 2", 1, "12.03");
        dueExchange(s, "bench seats 5 sits 0 1 8 2 3;friends 0 3;friends 1 2", 2, "21.03");
        dueExchange(s, "bench seats 5 sits 7 4 8 6 5;friends 7 5;friends 6 4", 45, "75.64");
        dueExchange(s, "bench seats 6 sits 6 4 3 8 7 5;friends 6 5;friends 7 4;friends 4 3", 67, "743.65");
        dueExchange(s, "bench seats 5 sits 0 1 8 2 3;secret 0 3;secret 1 2", 2, "21.03");
        s.says(28, ": they do: 10 times the one, and the other.");
        NobodyBetween x = Rooms.with("bench seats 5 sits 0 2 8 1 3;friends 0 3;friends 1 2;bench seats 2 sits 4 5");
        s.due("they do", x.exchange(0), 1);
        s.due("no more", x.exchange(0), Sentences.NONE);
        s.dueRow("they did once", x, 0, "12.03");
        s.dueRow("another BENCH stays", x, 1, "45");
        s.says(28, "BEYOND.");
        s.beyond(Rooms::furnished, "bench", (y, v) -> y.exchange(v), -1, 3, Integer.MIN_VALUE, Integer.MAX_VALUE);
        s.says(28, "NONE.");
        s.refused(Rooms::full, "nobody sits there", y -> y.exchange(4), Sentences.NONE);
        s.refused(Rooms::furnished, "one sits there", y -> y.exchange(1), Sentences.NONE);
        s.refused(Rooms.telling("bench seats 4 sits 0 1 2;friends 0 2"), "one would gain, the other not",
                y -> y.exchange(0), Sentences.NONE);
        s.refused(Rooms.telling("bench seats 4 sits 0 1;friends 0 1"), "both would gain as much",
                y -> y.exchange(0), Sentences.NONE);
        s.refused(Rooms.telling("ring seats 5 sits 0 1 8 8 2;friends 0 2"), "round the end nobody gains",
                y -> y.exchange(0), Sentences.NONE);
    }

    private static void exchangeHolds(Sentences s) {
        s.says(28, ", so that it HOLDS then");
        String friends = "friends 0 3;friends 1 2;";
        s.refused(Rooms.telling(friends + "friends 1 3;pew seats 5 sits 0 1 8 2 3"), "0 would be between 1 and 3",
                x -> x.exchange(0), Sentences.NONE);
        String boat = friends + "weight 0 20;boat seats 5 sits 0 1 8 2 3;held ";
        s.refused(Rooms.telling(boat + "19"), "it would list by 20", x -> x.exchange(0), Sentences.NONE);
        dueExchange(s, boat + "20", 2, "21.03");
        String raft = friends + "weight 0 20;raft seats 5 sits 0 1 8 2 3;held ";
        s.refused(Rooms.telling(raft + "9"), "it would list by 20", x -> x.exchange(0), Sentences.NONE);
        dueExchange(s, raft + "10", 2, "21.03");
        dueExchange(s, "weight 0 20;bench seats 5 sits 0 1 8 2 3;held 0;" + friends + "weight 0 99", 2, "21.03");
    }

    private static void dueShows(Sentences s, int kind, String sits, int want) {
        NobodyBetween x = new NobodyBetween();
        x.bench(kind, sits.length());
        x.held(999);
        for (int seat = 0; seat < sits.length(); seat++) {
            if (sits.charAt(seat) != '.') {
                x.sit(sits.charAt(seat) - '0', 0, seat);
            }
        }
        s.due("shows(0) of " + sits + ", kind " + kind, x.shows(0), want);
    }

    private static void shows(Sentences s) {
        s.says(29, "How many pairs, by a BENCH that HOLDS, are surely no FRIENDS that count: LEFT and RIGHT of one who"
                + " sits");
        for (int kind = 0; kind < 7; kind++) {
            dueShows(s, kind, "........", 0);
            dueShows(s, kind, "0", 0);
            dueShows(s, kind, "01", 0);
        }
        dueShows(s, Kind.BENCH, "01234567", 6);
        dueShows(s, Kind.BOAT, "01234567", 6);
        dueShows(s, Kind.RING, "01234567", 8);
        dueShows(s, Kind.BENCH, "0.1", 0);
        dueShows(s, Kind.PEW, "0.1.2", 1);
        dueShows(s, Kind.PEW, "0..1.2", 0);
        dueShows(s, Kind.BED, "0...1..2", 1);
        dueShows(s, Kind.TABLE, "01.", 0);
        dueShows(s, Kind.TABLE, "0.1.2.", 3);
        dueShows(s, Kind.RING, "012", 3);
        s.says(29, ", each pair once.");
        dueShows(s, Kind.RING, "0123", 2);
        dueShows(s, Kind.TABLE, "01.23.", 2);
        NobodyBetween secret = Rooms.with("secret 0 2;bench seats 3 sits 0 1 2");
        s.due("SECRET ones that don't count", secret.shows(0), 1);
    }

    private static void showsRefused(Sentences s) {
        s.says(29, "BEYOND.");
        s.range(Rooms::furnished, "bench", 0, 2, (x, v) -> x.shows(v));
        s.says(29, "STATE: it doesn't HOLD.");
        s.refused(Rooms.telling("friends 0 2;bench seats 3 sits 0 1 2"), "a SEAT is WRONG", x -> x.shows(0),
                Sentences.STATE);
        s.refused(x -> {
            Rooms.telling("secret 0 2;bench seats 3 sits 0 1 2").on(x);
            x.over(true);
        }, "SECRET ones, OVER", x -> x.shows(0), Sentences.STATE);
        s.refused(Rooms.telling("boat seats 2 sits 0;held 9"), "a BOAT lists", x -> x.shows(0), Sentences.STATE);
        s.taken(Rooms.telling("boat seats 2 sits 0;held 10"), "a BOAT lists no more than HELD", x -> x.shows(0));
        s.refused(Rooms.telling("raft seats 2 sits 0;held 4"), "a RAFT lists", x -> x.shows(0), Sentences.STATE);
        s.taken(Rooms.telling("raft seats 2 sits 0;held 5"), "a RAFT lists no more", x -> x.shows(0));
    }

    private static void course(Sentences s) {
        s.says(30, "A COURSE: on a BENCH all go on by n SEATS (1 to 7; round)");
        s.range(Rooms::furnished, "n", 1, 7, (x, v) -> x.course(1, v));
        for (int n = 1; n <= 7; n++) {
            NobodyBetween x = Rooms.with("pew seats 8 sits 0 8 8 8 8 8 8 7;bench seats 1 sits 6;table seats 3 sits 1");
            x.course(0, n);
            s.due("the first", x.where(0), n);
            s.due("the last, round", x.where(7), n - 1);
            x.course(1, n);
            s.due("the only SEAT", x.where(6), 10);
            x.course(2, n);
            s.due("of 3", x.where(1), 20 + n % 3);
            s.due("all still sit", x.count(1), 4);
        }
        s.says(30, ": 1 if it HOLDS then, else 0.");
        NobodyBetween x = Rooms.with("friends 0 2;bench seats 4 sits 0 1 2;boat seats 3 sits 3;held 19");
        s.due(".012", x.course(0, 1), 0);
        s.due("2.01", x.course(0, 1), 1);
        s.due("as it was", x.course(0, 4), 1);
        s.due(".3.", x.course(1, 1), 1);
        s.due("..3", x.course(1, 1), 0);
        s.due("3..", x.course(1, 7), 0);
        s.says(30, "BEYOND.");
        s.range(Rooms::furnished, "bench", 0, 2, (y, v) -> y.course(v, 1));
    }

    private static void turns(Sentences s) {
        s.says(31, "In how many of all its turns (0 to SEATS less 1 SEATS on) a BENCH HOLDS.");
        for (int seats = 1; seats <= 8; seats++) {
            NobodyBetween x = new NobodyBetween();
            x.bench(seats % 7, seats);
            s.due("nobody", x.turns(0), seats);
        }
        NobodyBetween row = Rooms.with("friends 0 2;bench seats 8 sits 0 1 2");
        s.due("20.....1 and 12.....0", row.turns(0), 2);
        row.course(0, 7);
        s.due("from another one on", row.turns(0), 2);
        row.turn(0, Kind.RING);
        s.due("a RING is WRONG in all", row.turns(0), 0);
        NobodyBetween boat = Rooms.with("boat seats 8 sits 0;raft seats 8 sits 1;boat seats 1 sits 2");
        int[][] due = {{0, 0, 0}, {9, 0, 2}, {10, 2, 2}, {29, 2, 6}, {30, 4, 6}, {34, 4, 6}, {35, 4, 8}, {69, 6, 8},
            {70, 8, 8}};
        for (int[] held : due) {
            boat.held(held[0]);
            s.due("BOAT, HELD " + held[0], boat.turns(0), held[1]);
            s.due("RAFT, HELD " + held[0], boat.turns(1), held[2]);
            s.due("the only SEAT", boat.turns(2), 1);
        }
        s.asked(Rooms::furnished, "turns(1)", x -> x.turns(1), 3);
        s.says(31, "BEYOND.");
        s.range(Rooms::furnished, "bench", 0, 2, (x, v) -> x.turns(v));
    }

    private static void seed(Sentences s) {
        s.says(32, "z becomes v: what it was.");
        NobodyBetween x = new NobodyBetween();
        s.due("at first", x.seed(5), 1);
        s.due("as told", x.seed(5), 5);
        s.due("the same again", x.seed(0), 5);
        s.due("count(6)", x.count(6), 0);
        s.says(32, "What seed() and count(6) tell, z, may be any int: that is no finding.");
        int[] any = {Integer.MIN_VALUE, Integer.MAX_VALUE, -1, -1000000, -1000001, -1000002, -1000003, -1000004,
            -1000005, -1000006, -1000007, -1000008, 0};
        for (int v : any) {
            x.seed(v);
            s.due("count(6)", x.count(6), v);
            s.due("seed(" + v + ")", x.seed(v), v);
        }
        s.due("status(-1)", x.status(-1), 0);
    }
}
