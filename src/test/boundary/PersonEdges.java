import java.util.List;

/** Promises 1 to 7: a new object, persons. */
final class PersonEdges {
    private PersonEdges() {
    }

    static void run(Sentences s) {
        newObject(s);
        noBenches(s);
        calls(s);
        friends(s);
        are(s);
        weight(s);
        over(s);
        held(s);
        circle(s);
    }

    private static void newObject(Sentences s) {
        Rooms.after(Rooms::furnished);
        NobodyBetween x = new NobodyBetween();
        s.says(1, "All as at first");
        s.due("z", x.count(6), 1);
        s.due("HELD", x.count(4), 50);
        s.due("OVER", x.over(false), 0);
        s.due("who sit", x.count(1), 0);
        s.due("FRIENDS that count", x.count(2), 0);
        s.due("SECRET pairs", x.count(3), 0);
        s.due("BENCHES that HOLD", x.count(7), 0);
        s.due("findings", x.status(-1), 0);
        for (int person = 0; person < 8; person++) {
            s.due("WEIGHT", x.weight(person, 10), 10);
        }
        for (int spot = 0; spot < 10; spot++) {
            s.due("a SPOT", x.as(spot, 0), Sentences.MISSING);
        }
        for (int sheet = 0; sheet < 4; sheet++) {
            s.due("a SHEET", x.write(sheet, 0, 0), Sentences.MISSING);
        }
        s.says(1, "THE TAPE is empty");
        s.due("count(5)", x.count(5), 0);
        s.due("wipe()", x.wipe(), 0);
        s.due("text()", x.text(), -1);
        s.says(1, "no image is kept.");
        s.due("tear()", new NobodyBetween().tear(), 0);
        s.refused(Rooms::bare, "undo()", y -> y.undo(), Sentences.NONE);
    }

    private static void noBenches(Sentences s) {
        s.says(1, "no BENCHES");
        s.due("count(0)", new NobodyBetween().count(0), 0);
        List<Sentences.Act> all = List.of(x -> x.benchOf(0, 0), x -> x.turn(0, 0), x -> x.seat(0, 0),
                x -> x.beside(0, 0, 0), x -> x.wrong(0), x -> x.sit(0, 0, 0), x -> x.may(0, 0), x -> x.kind(0, 0),
                x -> x.come(0, 1), x -> x.seatings(0, 0), x -> x.lay(0, 0, 0), x -> x.most(0, 0),
                x -> x.frees(0, 0), x -> x.often(0, 1, 0, 0), x -> x.needs(0, 0), x -> x.worth(0),
                x -> x.exchange(0), x -> x.shows(0), x -> x.course(0, 1), x -> x.turns(0), x -> x.hold(0, 0));
        for (int i = 0; i < all.size(); i++) {
            s.refused(Rooms::bare, "BENCH 0, call " + i, all.get(i), Sentences.BEYOND);
        }
        s.refused(x -> x.sheet(0, 8, 1), "load(0, 0)", x -> x.load(0, 0), Sentences.BEYOND);
        s.refused(x -> x.sheet(0, 8, 1), "judge(0, 0)", x -> x.judge(0, 0), Sentences.BEYOND);
    }

    private static void calls(Sentences s) {
        s.says(1, "An object is used for at most 512 calls after it has been made; what later calls answer is free.");
        NobodyBetween seeded = new NobodyBetween();
        for (int call = 1; call <= 511; call++) {
            seeded.seed(call);
        }
        s.due("the 512th call", seeded.count(6), 511);
        NobodyBetween refusing = new NobodyBetween();
        for (int call = 1; call <= 511; call++) {
            refusing.undo();
        }
        s.due("the 512th call", refusing.status(3), 511);
        NobodyBetween sat = new NobodyBetween();
        sat.bench(2, 8);
        for (int call = 2; call <= 511; call++) {
            sat.sit(call % 8, 0, call % 8);
        }
        s.due("the 512th call", sat.benchOf(0, 2), 8);
    }

    private static void friends(Sentences s) {
        s.says(2, "PERSONS 0 to 7");
        s.range(Rooms::furnished, "one", 0, 7, (x, v) -> x.friends(v, v == 3 ? 4 : 3, 1));
        s.range(Rooms::furnished, "other", 0, 7, (x, v) -> x.friends(v == 3 ? 4 : 3, v, 1));
        s.says(2, "Two unlike PERSONS");
        for (int p = 0; p < 8; p++) {
            int person = p;
            s.refused(Rooms::furnished, "with itself: " + p, x -> x.friends(person, person, 1), Sentences.BEYOND);
            s.refused(Rooms::furnished, "with itself: " + p, x -> x.friends(person, person, 0), Sentences.BEYOND);
        }
        s.says(2, "are friends as told (0, 1, 2)");
        s.range(Rooms::furnished, "how", 0, 2, (x, v) -> x.friends(0, 7, v));
        s.says(2, ": what they were.");
        for (int was = 0; was <= 2; was++) {
            for (int then = 0; then <= 2; then++) {
                NobodyBetween x = new NobodyBetween();
                s.due("at first", x.friends(7, 0, was), 0);
                s.due("told the other way", x.friends(0, 7, then), was);
                s.due("and again", x.friends(7, 0, 0), then);
            }
        }
        s.says(2, "BEYOND.");
        s.refused(Rooms::furnished, "all wrong", x -> x.friends(-1, 8, 3), Sentences.BEYOND);
    }

    private static void are(Sentences s) {
        s.says(3, "Two unlike ones are FRIENDS (1), SECRET friends (2), or not (0, at first); the same both ways.");
        for (int one = 0; one < 8; one++) {
            for (int other = 0; other < 8; other++) {
                if (one != other) {
                    NobodyBetween x = new NobodyBetween();
                    s.due("not at first", x.are(one, other), 0);
                    x.friends(one, other, 1 + one % 2);
                    s.due("as told", x.are(one, other), 1 + one % 2);
                    s.due("the other way", x.are(other, one), 1 + one % 2);
                    s.due("no other pair", x.count(2) + x.count(3), 1);
                }
            }
        }
        s.says(3, "What two unlike PERSONS are (0, 1, 2). BEYOND.");
        s.range(Rooms::furnished, "one", 0, 7, (x, v) -> x.are(v, v == 3 ? 4 : 3));
        s.range(Rooms::furnished, "other", 0, 7, (x, v) -> x.are(v == 3 ? 4 : 3, v));
        for (int p = 0; p < 8; p++) {
            int person = p;
            s.refused(Rooms::furnished, "with itself: " + p, x -> x.are(person, person), Sentences.BEYOND);
        }
        NobodyBetween over = Rooms.with("secret 0 1;friends 0 2");
        over.over(true);
        s.due("SECRET, though it is OVER", over.are(0, 1), 2);
        s.due("FRIENDS", over.are(0, 2), 1);
    }

    private static void weight(Sentences s) {
        s.says(4, "each with a WEIGHT (1 to 99; 10 at first).");
        s.range(Rooms::furnished, "v", 1, 99, (x, v) -> x.weight(3, v));
        s.due("at first", new NobodyBetween().weight(7, 99), 10);
        s.says(4, "WEIGHT of a PERSON becomes v: what it was. BEYOND.");
        s.range(Rooms::furnished, "person", 0, 7, (x, v) -> x.weight(v, 5));
        NobodyBetween x = new NobodyBetween();
        for (int person = 0; person < 8; person++) {
            s.due("each has one", x.weight(person, person == 0 ? 1 : 92 + person), 10);
        }
        for (int person = 0; person < 8; person++) {
            s.due("what it was", x.weight(person, 50), person == 0 ? 1 : 92 + person);
        }
        x.weight(0, 99);
        x.weight(0, 0);
        x.weight(0, 100);
        s.due("what it was, the refused ones left out", x.weight(0, 99), 99);
        s.due("the same again", x.weight(0, 99), 99);
    }

    private static void over(Sentences s) {
        s.says(5, "OVER becomes so: 1 if it was, else 0.");
        NobodyBetween x = new NobodyBetween();
        s.due("at first, then not", x.over(false), 0);
        s.due("not, then it is", x.over(true), 0);
        s.due("it is, then too", x.over(true), 1);
        s.due("it is, then not", x.over(false), 1);
        s.due("not, then not", x.over(false), 0);
        s.says(5, "OVER: whether the meal is (0 at first): SECRET ones count as FRIENDS when it is; else as none.");
        NobodyBetween y = Rooms.with("secret 0 2;bench seats 3 sits 0 1 2");
        s.due("HOLDS at first", y.benchOf(0, 4), 1);
        s.due("none count", y.count(2), 0);
        y.over(true);
        s.due("HOLDS no more", y.benchOf(0, 4), 0);
        s.due("they count", y.count(2), 1);
        y.over(false);
        s.due("HOLDS again", y.benchOf(0, 4), 1);
        s.due("none count again", y.count(2), 0);
        y.friends(0, 2, 1);
        s.due("FRIENDS count when it isn't", y.benchOf(0, 4), 0);
        y.over(true);
        s.due("and when it is", y.benchOf(0, 4), 0);
    }

    private static void held(Sentences s) {
        s.says(6, "HELD (0 to 999; 50 at first) is one number for all.");
        s.range(Rooms::furnished, "v", 0, 999, (x, v) -> x.held(v));
        s.due("at first", new NobodyBetween().held(50), 50);
        NobodyBetween boats = Rooms.with("boat seats 2 sits 0;boat seats 2 sits 8 1;raft seats 2 sits 2;held 10");
        s.due("it is so for all", boats.count(7), 3);
        boats.held(9);
        s.due("for all BOATS", boats.count(7), 1);
        boats.held(4);
        s.due("for all RAFTS", boats.count(7), 0);
        s.says(6, "HELD becomes v: what it was. BEYOND.");
        NobodyBetween x = new NobodyBetween();
        s.due("at first", x.held(999), 50);
        s.due("the greatest", x.held(0), 999);
        s.due("above it", x.held(1000), Sentences.BEYOND);
        s.due("below it", x.held(-1), Sentences.BEYOND);
        s.due("the least", x.held(7), 0);
        s.due("count(4)", x.count(4), 7);
    }

    private static void circle(Sentences s) {
        s.says(7, "FRIENDS (as they count now) of a PERSON, as a set.");
        for (int person = 0; person < 8; person++) {
            NobodyBetween x = new NobodyBetween();
            s.due("none", x.circle(person), 0);
            for (int other = 0; other < 8; other++) {
                x.friends(person, other, 2);
            }
            s.due("all in secret, not OVER", x.circle(person), 0);
            x.over(true);
            s.due("all others", x.circle(person), 255 - (1 << person));
            s.due("of another one, this one alone", x.circle(7 - person), 1 << person);
            x.over(false);
            x.friends(person, 7 - person, 1);
            s.due("one openly, not OVER", x.circle(person), 1 << 7 - person);
        }
        s.says(7, "BEYOND.");
        s.range(Rooms::furnished, "person", 0, 7, (x, v) -> x.circle(v));
    }
}
