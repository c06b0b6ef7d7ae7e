/** Promises 43 to 47: images, counts, findings. */
final class ImageEdges {
    private ImageEdges() {
    }

    static void run(Sentences s) {
        image(s);
        undo(s);
        tear(s);
        count(s);
        countMost(s);
        findings(s);
        order(s);
        status(s);
        statusRefused(s);
    }

    private static void image(Sentences s) {
        s.says(43, "All but THE TAPE and SHEETS is kept: 1.");
        NobodyBetween x = Rooms.with("friends 0 1;secret 2 3;weight 7 99;held 999;raft seats 8 sits 8 8 8 8 8 8 8 7");
        x.hold(9, 0);
        x.over(true);
        x.seed(Integer.MIN_VALUE);
        s.due("image()", x.image(), 1);
        Rooms.tell(x, "secret 0 1;friends 2 3;weight 7 1;held 0;pew seats 1 sits 0;bed seats 1");
        x.hold(9, 1);
        x.hold(0, 2);
        x.over(false);
        x.seed(3);
        x.turn(0, 2);
        x.course(0, 1);
        Rooms.writeAll(x, 3, 8, 5, 8);
        Rooms.feed(x, "held 5");
        s.due("undo()", x.undo(), 1);
        s.due("FRIENDS", x.are(0, 1), 1);
        s.due("SECRET", x.are(2, 3), 2);
        s.due("WEIGHT", x.weight(7, 10), 99);
        s.due("HELD", x.count(4), 999);
        s.due("KIND", x.benchOf(0, 0), 6);
        s.dueRow("who sits", x, 0, ".......7");
        s.due("no more sit", x.count(1), 1);
        s.due("a SPOT", x.as(9, 6), 0);
        s.due("another SPOT", x.as(0, 0), Sentences.MISSING);
        s.due("OVER", x.over(true), 1);
        s.due("z", x.count(6), Integer.MIN_VALUE);
        s.due("THE TAPE is as it was", x.count(5), 6);
        s.due("it is read", x.text(), 1);
        s.due("a SHEET is as it was", x.write(3, 1, 6), 1);
        s.due("its numbers", x.load(3, 0), 2);
        s.dueRow("5 and 6", x, 0, "56.....7");
    }

    private static void undo(Sentences s) {
        s.says(44, "It becomes what was kept latest (which stays)");
        NobodyBetween x = new NobodyBetween();
        for (int v = 1; v <= 3; v++) {
            x.held(v);
            s.due("image()", x.image(), 1);
        }
        for (int i = 0; i < 3; i++) {
            x.held(900);
            x.undo();
            s.due("the latest", x.count(4), 3);
        }
        x.undo();
        x.bench(0, 2);
        x.sit(7, 0, 0);
        x.image();
        x.undo();
        x.sit(7, 0, 1);
        x.undo();
        s.dueRow("what is done behind undo() is not kept", x, 0, "7.");
        s.says(44, ": how many BENCHES.");
        NobodyBetween y = new NobodyBetween();
        y.image();
        for (int i = 0; i < 5; i++) {
            y.bench(i, 8);
        }
        s.due("none", y.undo(), 0);
        s.due("count(0)", y.count(0), 0);
        for (int i = 0; i < 5; i++) {
            y.bench(i, 8);
        }
        y.image();
        s.due("all 5", y.undo(), 5);
        s.says(44, "NONE: nothing is kept.");
        s.refused(Rooms::torn, "behind tear()", z -> z.undo(), Sentences.NONE);
        s.refused(Rooms::bare, "of a new object", z -> z.undo(), Sentences.NONE);
        s.taken(Rooms::furnished, "something is kept", z -> z.undo());
    }

    private static void tear(Sentences s) {
        s.says(45, "Nothing is kept: 1 if something was, else 0.");
        NobodyBetween x = new NobodyBetween();
        s.due("nothing was", x.tear(), 0);
        x.image();
        x.image();
        s.due("something was", x.tear(), 1);
        s.due("nothing is", x.tear(), 0);
        x.image();
        x.undo();
        s.due("undo() leaves it", x.tear(), 1);
        s.due("no finding", x.status(-1), 0);
        NobodyBetween torn = Rooms.after(Rooms::furnished);
        torn.tear();
        s.due("all else stays", torn.count(0) + torn.count(5), 21);
        torn.image();
        s.due("one may be kept again", torn.undo(), 3);
    }

    private static void count(Sentences s) {
        s.says(46, "0 BENCHES, 1 who sit, 2 FRIENDS that count, in pairs, 3 SECRET pairs, 4 HELD, 5 bytes of THE TAPE,"
                + " 6 z, 7 BENCHES that HOLD.");
        NobodyBetween x = Rooms.after(Rooms::furnished);
        int[] due = {3, 4, 4, 2, 60, 18, -5, 3};
        for (int what = 0; what < 8; what++) {
            s.due("count(" + what + ")", x.count(what), due[what]);
        }
        x.over(false);
        s.due("FRIENDS that count, not OVER", x.count(2), 2);
        s.due("SECRET pairs, not OVER", x.count(3), 2);
        x.held(24);
        s.due("the RAFT lists by 50", x.count(7), 2);
        x.held(25);
        s.due("the RAFT lists by 50", x.count(7), 3);
        s.says(46, "BEYOND: another what.");
        s.range(Rooms::furnished, "what", 0, 7, (y, v) -> y.count(v));
    }

    private static void countMost(Sentences s) {
        s.says(46, "2 FRIENDS that count, in pairs");
        NobodyBetween x = new NobodyBetween();
        int pairs = 0;
        for (int one = 0; one < 8; one++) {
            for (int other = one + 1; other < 8; other++) {
                x.friends(one, other, 2);
                pairs++;
                s.due("SECRET pairs", x.count(3), pairs);
            }
        }
        s.due("none counts", x.count(2), 0);
        x.over(true);
        s.due("all count", x.count(2), 28);
        for (int one = 0; one < 8; one++) {
            for (int other = 0; other < one; other++) {
                x.friends(one, other, 1);
            }
        }
        s.due("no SECRET pairs", x.count(3), 0);
        x.over(false);
        s.due("all count", x.count(2), 28);
        for (int bench = 0; bench < 5; bench++) {
            x.bench(0, 8);
        }
        for (int person = 0; person < 8; person++) {
            x.sit(person, person / 2, 7 * (person % 2));
        }
        s.due("all sit", x.count(1), 8);
        s.due("all HOLD", x.count(7), 5);
    }

    private static void findings(Sentences s) {
        s.says(47, "FINDINGS are answers below -1000000: LOW is -1000001; LOW BEYOND, LOW - 1 FULL, LOW - 2 KIND,"
                + " LOW - 3 NONE, LOW - 4 STATE, LOW - 5 MISSING, LOW - 6 SIZE.");
        NobodyBetween x = Rooms.after(Rooms::full);
        s.due("BEYOND", x.circle(8), -1000001);
        s.due("FULL", x.bench(0, 1), -1000002);
        s.due("KIND", x.as(1, 1), -1000003);
        s.due("NONE", x.where(7), -1000004);
        s.due("STATE", x.gain(7), -1000005);
        s.due("MISSING", x.as(8, 0), -1000006);
        s.due("SIZE", x.seatings(0, 31), -1000007);
        for (int which = 0; which < 7; which++) {
            s.due("status(" + which + ")", x.status(which), 1);
        }
        s.due("status(-1)", x.status(-1), 7);
    }

    private static void order(Sentences s) {
        s.says(47, "Each act tells its findings in the order in which they are asked (that of its words);");
        NobodyBetween x = Rooms.after(Rooms::full);
        s.due("bench(): BEYOND, FULL", x.bench(7, 1), Sentences.BEYOND);
        s.due("sit(): BEYOND, STATE", x.sit(-1, 0, 0), Sentences.BEYOND);
        s.due("seatings(): BEYOND, SIZE", x.seatings(5, 255), Sentences.BEYOND);
        s.due("lay(): BEYOND, SIZE, NONE", x.lay(0, 255, -1), Sentences.BEYOND);
        s.due("lay(): SIZE, NONE", x.lay(0, 255, 999999), Sentences.SIZE);
        s.due("most(): BEYOND, SIZE", x.most(5, 255), Sentences.BEYOND);
        s.due("frees(): BEYOND, SIZE", x.frees(5, 255), Sentences.BEYOND);
        s.due("frees(): SIZE, NONE", x.frees(3, 48), Sentences.SIZE);
        s.due("often(): BEYOND, SIZE", x.often(0, 255, 0, 4), Sentences.BEYOND);
        s.due("needs(): BEYOND, SIZE", x.needs(5, 255), Sentences.BEYOND);
        s.due("as(): BEYOND, MISSING", x.as(8, 7), Sentences.BEYOND);
        s.due("sheet(): BEYOND, SIZE", x.sheet(0, 7, -1), Sentences.BEYOND);
        s.due("write(): MISSING, BEYOND", x.write(3, 40, 0), Sentences.MISSING);
        s.due("copy(): BEYOND, MISSING", x.copy(4, 0, 3, 0, 1), Sentences.BEYOND);
        s.due("copy(): MISSING, KIND", x.copy(3, 0, 0, 0, 1), Sentences.MISSING);
        s.due("copy(): KIND, BEYOND", x.copy(0, 0, 1, 0, -1), Sentences.KIND);
        s.due("load(): BEYOND, MISSING", x.load(4, 9), Sentences.BEYOND);
        s.due("load(): MISSING, BEYOND", x.load(3, 9), Sentences.MISSING);
        s.due("judge(): MISSING, BEYOND", x.judge(3, 9), Sentences.MISSING);
        s.due("feed(): BEYOND, FULL", x.feed(0, 5), Sentences.BEYOND);
        s.says(47, "one that answers a finding changes nothing but status().");
        s.refused(Rooms::full, "bench(0, 1)", y -> y.bench(0, 1), Sentences.FULL);
    }

    private static void status(Sentences s) {
        s.says(47, "How many acts answered a finding ever (undo() takes none back)");
        NobodyBetween x = new NobodyBetween();
        s.due("at first", x.status(-1), 0);
        x.image();
        x.circle(8);
        x.undo();
        s.due("behind undo()", x.status(-1), 1);
        s.due("behind undo()", x.status(0), 1);
        x.tear();
        x.undo();
        s.due("a refused undo()", x.status(3), 1);
        x.text();
        Rooms.tell(x, "held");
        s.due("a FAULT is none", x.status(-1), 2);
        x.seed(-1000001);
        x.count(6);
        x.seed(1);
        s.due("z is none", x.status(-1), 2);
        x.bench(0, 2);
        s.due("-1 for nobody is none", x.seat(0, 0) + x.beside(0, 0, 0) + x.status(-1), 0);
        s.says(47, ": which -1: all, 0 to 6: BEYOND to SIZE.");
        NobodyBetween y = Rooms.after(Rooms::bare);
        for (int i = 0; i < 500; i++) {
            y.gain(0);
        }
        s.due("all", y.status(-1), 500);
        for (int which = 0; which < 7; which++) {
            s.due("status(" + which + ")", y.status(which), which == 4 ? 500 : 0);
        }
    }

    private static void statusRefused(Sentences s) {
        s.says(47, "BEYOND (counted from then on): another one.");
        s.range(Rooms::furnished, "which", -1, 6, (x, v) -> x.status(v));
        NobodyBetween x = new NobodyBetween();
        s.due("status(7)", x.status(7), Sentences.BEYOND);
        s.due("status(-2)", x.status(-2), Sentences.BEYOND);
        s.due("counted", x.status(0), 2);
        s.due("counted", x.status(-1), 2);
        s.due("asking counts not", x.status(-1), 2);
    }
}
