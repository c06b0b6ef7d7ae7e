/** Promises 33 to 35: texts. */
final class TextEdges {
    private static final String[] KINDS = {"bench", "pew", "ring", "boat", "bed", "table", "raft"};

    private TextEdges() {
    }

    static void run(Sentences s) {
        feed(s);
        feedFull(s);
        wipe(s);
        words(s);
        numbers(s);
        blanks(s);
        items(s);
        bonds(s);
        weights(s);
        held(s);
        benches(s);
        sitters(s);
        sittersRefused(s);
        faults(s);
        sixthBench(s);
        endsTooEarly(s);
        told(s);
        faulty(s);
    }

    private static void feed(Sentences s) {
        s.says(33, "THE TAPE gets the n lowest bytes of a number behind it, the highest of these first (n 1 to 4)");
        s.range(Rooms::furnished, "n", 1, 4, (x, v) -> x.feed(0x20202020, v));
        NobodyBetween x = new NobodyBetween();
        x.feed(0x68656C64, 4);
        x.feed(0x7F203132, 3);
        s.due("held 12", x.text(), 1);
        s.due("HELD", x.count(4), 12);
        x.feed(0x7F7F6865, 2);
        x.feed(0x7F7F6C64, 2);
        x.feed(0x7F7F7F37, 1);
        x.feed(0xFFFFFF38, 1);
        s.due("held78", x.text(), 1);
        s.due("HELD", x.count(4), 78);
        x.feed(0x68656C64, 4);
        x.feed(0xB7202020, 4);
        s.due("held, and a byte of 183", x.text(), -5);
        s.says(33, ": how many it has.");
        int has = 0;
        for (int n = 1; n <= 4; n++) {
            has += n;
            s.due("feed(0, " + n + ")", x.feed(0, n), has);
            s.due("count(5)", x.count(5), has);
        }
        s.says(33, "BEYOND: n.");
        s.beyond(Rooms::furnished, "n", (y, v) -> y.feed(-1, v), 0, 5, -1, 8, 32, Integer.MIN_VALUE,
                Integer.MAX_VALUE);
        s.taken(Rooms::furnished, "any number", y -> y.feed(Integer.MIN_VALUE, 4));
        s.taken(Rooms::furnished, "any number", y -> y.feed(Integer.MAX_VALUE, 1));
    }

    /** A tape with that many bytes, which is a text. */
    private static Sentences.Story taped(int bytes) {
        return x -> Rooms.feed(x, "held 77" + " ".repeat(bytes - 7));
    }

    private static void feedFull(Sentences s) {
        s.says(33, "A TEXT is read from THE TAPE (bytes, at most 120).");
        NobodyBetween x = new NobodyBetween();
        for (int i = 1; i <= 30; i++) {
            s.due("feed", x.feed(0x20202020, 4), 4 * i);
        }
        s.due("one more", x.feed(32, 1), Sentences.FULL);
        s.due("count(5)", x.count(5), 120);
        s.due("120 blanks", x.text(), -121);
        s.says(33, "FULL.");
        for (int n = 1; n <= 4; n++) {
            int more = n;
            NobodyBetween y = Rooms.after(taped(120 - n));
            s.due("just room for " + n, y.feed(0x20202020, n), 120);
            s.refused(taped(121 - n), "no room for " + n, z -> z.feed(0x3B3B3B3B, more), Sentences.FULL);
            s.refused(taped(120), "no room at all", z -> z.feed(0x3B3B3B3B, more), Sentences.FULL);
        }
        s.refused(taped(120), "BEYOND ahead of FULL", z -> z.feed(0, 5), Sentences.BEYOND);
        s.refused(taped(120), "BEYOND ahead of FULL", z -> z.feed(0, 0), Sentences.BEYOND);
    }

    private static void wipe(Sentences s) {
        s.says(34, "THE TAPE is empty: how many it had.");
        NobodyBetween x = new NobodyBetween();
        s.due("nothing", x.wipe(), 0);
        x.feed(32, 1);
        s.due("one", x.wipe(), 1);
        taped(120).on(x);
        s.due("all", x.wipe(), 120);
        s.due("it is empty", x.wipe(), 0);
        s.due("count(5)", x.count(5), 0);
        s.due("text()", x.text(), -1);
        s.due("there is room again", x.feed(0, 4), 4);
        NobodyBetween wiped = Rooms.after(Rooms::furnished);
        wiped.wipe();
        s.due("what was wiped is not read", Rooms.tell(wiped, "held 9"), 1);
        s.due("WEIGHT", wiped.weight(6, 10), 10);
    }

    private static void reads(Sentences s, String text, int items) {
        NobodyBetween x = new NobodyBetween();
        s.due("text() of '" + text + "'", Rooms.tell(x, text), items);
        s.due("no finding", x.status(-1), 0);
        s.due("THE TAPE then", x.count(5), 0);
    }

    private static void fault(Sentences s, String text, int place) {
        fault(s, Rooms::furnished, text, place);
    }

    /** Nothing changes: another object whose tape was wiped goes on alike. */
    private static void fault(Sentences s, Sentences.Story ahead, String text, int place) {
        NobodyBetween x = Rooms.after(ahead);
        NobodyBetween twin = Rooms.after(ahead);
        twin.wipe();
        x.wipe();
        s.due("text() of '" + text + "'", Rooms.tell(x, text), -1 - place);
        s.due("no finding", x.status(-1), twin.status(-1));
        s.alike("the fault of '" + text + "'", x, twin);
    }

    private static void words(Sentences s) {
        s.says(35, "TOKENS, each as long as can be: WORDS (letters a to z)");
        fault(s, "helda 5", 0);
        fault(s, "heldz 5", 0);
        fault(s, "held` 5", 4);
        fault(s, "held{ 5", 4);
        fault(s, "heldA 5", 4);
        fault(s, "heldZ 5", 4);
        fault(s, "Held 5", 0);
        fault(s, "hel d 5", 0);
        fault(s, "friendssecret 0 1", 0);
        fault(s, "benchseats 2", 0);
        fault(s, "bench seatssits 2", 6);
        for (String item : new String[] {"friends 0 5", "secret 0 5", "weight 0 5", "held 5", "bench seats 5",
            "pew seats 5", "ring seats 5", "boat seats 5", "bed seats 5", "table seats 5", "raft seats 5"}) {
            int blank = item.indexOf(' ');
            fault(s, "q" + item.substring(1), 0);
            fault(s, item.substring(0, blank - 1) + "q" + item.substring(blank), 0);
            fault(s, item.substring(0, blank) + "q" + item.substring(blank), 0);
        }
        fault(s, "bench qeats 5", 6);
        fault(s, "bench seatq 5", 6);
        fault(s, "bench seats 5 qits 1", 14);
        fault(s, "bench seats 5 sitq 1", 14);
        reads(s, "friends0 1;secret2 3;weight4 5;held6;bench seats7sits0 1", 5);
        s.says(35, "SIGN ;");
        reads(s, "held 1;held 2", 2);
        reads(s, "held 1 ; held 2", 2);
        fault(s, "held 1:held 2", 6);
        fault(s, "held 1,held 2", 6);
        fault(s, "held 1<held 2", 6);
    }

    private static void dueHeld(Sentences s, String text, int held) {
        NobodyBetween x = new NobodyBetween();
        s.due("text() of '" + text + "'", Rooms.tell(x, text), 1);
        s.due("HELD by '" + text + "'", x.count(4), held);
    }

    private static void numbers(Sentences s) {
        s.says(35, "NUMBERS (digits, 999 at most)");
        dueHeld(s, "held 0", 0);
        dueHeld(s, "held 9", 9);
        dueHeld(s, "held 10", 10);
        dueHeld(s, "held 998", 998);
        dueHeld(s, "held 999", 999);
        fault(s, "held 1000", 5);
        fault(s, "held 9999", 5);
        fault(s, "held 65537", 5);
        fault(s, "held 4294967297", 5);
        fault(s, "held 18446744073709551617", 5);
        fault(s, "held " + "9".repeat(115), 5);
        dueHeld(s, "held 0999", 999);
        dueHeld(s, "held " + "0".repeat(114) + "7", 7);
        fault(s, "held 01000", 5);
        fault(s, "held 5/", 6);
        fault(s, "held 5:", 6);
        fault(s, "held 5 0", 7);
        fault(s, "held 5a", 6);
        fault(s, "held -5", 5);
        fault(s, "held +5", 5);
        fault(s, "friends 01", 10);
        fault(s, "friends 2 35", 10);
    }

    private static void blanks(Sentences s) {
        s.says(35, "; blanks (32) may stand between.");
        reads(s, "   friends   0   1   ;   held   5   ", 2);
        reads(s, "held0", 1);
        fault(s, "held\t5", 4);
        fault(s, "held\n5", 4);
        fault(s, "held\u001f5", 4);
        fault(s, "held!5", 4);
        fault(s, "held\u00a05", 4);
        fault(s, "held \u00005", 5);
        fault(s, "held 5\u0000", 6);
        fault(s, "held 5\r", 6);
    }

    private static void items(Sentences s) {
        s.says(35, "TEXT: ITEM { ; ITEM }.");
        fault(s, "", 0);
        fault(s, ";", 0);
        fault(s, ";held 5", 0);
        fault(s, "held 5;", 7);
        fault(s, "held 5;;held 6", 7);
        fault(s, "held 5 held 6", 7);
        fault(s, "held 5; ;held 6", 8);
        fault(s, "held 5;5", 7);
        fault(s, "5", 0);
        reads(s, "held 5", 1);
        reads(s, "held 5;held 6;held 7", 3);
        reads(s, "held0;".repeat(19) + "held 0", 20);
        fault(s, "held0;".repeat(20), 120);
    }

    private static void bonds(Sentences s) {
        s.says(35, "ITEM: friends or secret, a NUMBER, a NUMBER (0 to 7, another one)");
        for (int how = 1; how <= 2; how++) {
            String word = how == 1 ? "friends " : "secret ";
            int at = word.length();
            for (int one = 0; one < 8; one++) {
                fault(s, word + one + " " + one, at + 2);
                NobodyBetween x = new NobodyBetween();
                int other = 7 - one;
                s.due(word + one + " " + other, Rooms.tell(x, word + one + " " + other), 1);
                s.due("are(..)", x.are(other, one), how);
                s.due("no other pair", x.count(how == 1 ? 2 : 3), 1);
            }
            fault(s, word + "8 0", at);
            fault(s, word + "0 8", at + 2);
            fault(s, word + "9 9", at);
            fault(s, word + "0 256", at + 2);
            fault(s, word, at);
            fault(s, word + ";", at);
            fault(s, word + "0", at + 1);
            fault(s, word + "0;", at + 1);
            fault(s, word + "0 held", at + 2);
            fault(s, word + "held 5", at);
            fault(s, word + "0 1 2", at + 4);
        }
    }

    private static void weights(Sentences s) {
        s.says(35, "weight, a NUMBER (0 to 7), a NUMBER (1 to 99);");
        int[][] taken = {{0, 1}, {7, 99}, {0, 99}, {7, 1}};
        for (int[] row : taken) {
            NobodyBetween x = new NobodyBetween();
            s.due("weight", Rooms.tell(x, "weight " + row[0] + " " + row[1]), 1);
            s.due("WEIGHT", x.weight(row[0], 10), row[1]);
        }
        fault(s, "weight 8 1", 7);
        fault(s, "weight 10 1", 7);
        fault(s, "weight 0 0", 9);
        fault(s, "weight 0 100", 9);
        fault(s, "weight 8 0", 7);
        fault(s, "weight", 6);
        fault(s, "weight;", 6);
        fault(s, "weight 3", 8);
        fault(s, "weight 3;", 8);
        fault(s, "weight 3 5 6", 11);
        fault(s, "weight held", 7);
    }

    private static void held(Sentences s) {
        s.says(35, "held and a NUMBER;");
        dueHeld(s, "held 0", 0);
        dueHeld(s, "held 999", 999);
        fault(s, "held 1000", 5);
        fault(s, "held", 4);
        fault(s, "held;", 4);
        fault(s, "held held", 5);
        fault(s, "held 5 6", 7);
    }

    private static void benches(Sentences s) {
        s.says(35, "bench, pew, ring, boat, bed, table or raft, seats, a NUMBER (1 to 8)");
        for (int kind = 0; kind < 7; kind++) {
            String word = KINDS[kind];
            NobodyBetween x = new NobodyBetween();
            s.due(word, Rooms.tell(x, word + " seats 1;" + word + " seats 8"), 2);
            s.due("its KIND", x.benchOf(0, 0), kind);
            s.due("the fewest SEATS", x.benchOf(0, 1), 1);
            s.due("the most SEATS", x.benchOf(1, 1), 8);
            s.dueRow("nobody", x, 1, "........");
            fault(s, word + " seats 0", word.length() + 7);
            fault(s, word + " seats 9", word.length() + 7);
            fault(s, word + " seats", word.length() + 6);
            fault(s, word, word.length());
            fault(s, word + "s seats 1", 0);
            fault(s, word.substring(0, word.length() - 1) + " seats 1", 0);
        }
        fault(s, "bench 3", 6);
        fault(s, "bench sits 3", 6);
        fault(s, "bench seat 3", 6);
        fault(s, "bench;", 5);
        fault(s, "bench seats;", 11);
        fault(s, "bench seats sits", 12);
        fault(s, "bench seats 3 4", 14);
        fault(s, "bench seats 3 seats 3", 14);
        fault(s, "seats 3", 0);
        fault(s, "sits 3", 0);
    }

    private static void dueSitters(Sentences s, String text, String row) {
        NobodyBetween x = new NobodyBetween();
        s.due(text, Rooms.tell(x, text), 1);
        s.dueRow(text, x, 0, row);
    }

    private static void sitters(Sentences s) {
        s.says(35, "perhaps sits and 1 or more NUMBERS (0 to 8: who sits on SEATS 0, 1, ..; 8: nobody;");
        dueSitters(s, "pew seats 1 sits 0", "0");
        dueSitters(s, "pew seats 1 sits 7", "7");
        dueSitters(s, "pew seats 1 sits 8", ".");
        dueSitters(s, "pew seats 8 sits 7", "7.......");
        dueSitters(s, "pew seats 8 sits 7 6 5 4 3 2 1 0", "76543210");
        dueSitters(s, "pew seats 8 sits 8 8 8 8 8 8 8 8", "........");
        dueSitters(s, "pew seats 8 sits 8 8 8 8 8 8 8 0", ".......0");
        fault(s, "pew seats 1 sits 9", 17);
        fault(s, "pew seats 1 sits 10", 17);
        fault(s, "pew seats 1 sits 1000", 17);
        fault(s, "pew seats 1 sits", 16);
        fault(s, "pew seats 1 sits  ", 18);
        fault(s, "pew seats 1 sits;", 16);
        fault(s, "pew seats 1 sits held 5", 17);
        fault(s, "pew seats 3 sits 1 sits 3", 19);
        s.says(35, "no more than SEATS;");
        fault(s, "pew seats 1 sits 1 3", 19);
        fault(s, "pew seats 1 sits 8 8", 19);
        fault(s, "pew seats 2 sits 1 3 6", 21);
        fault(s, "pew seats 8 sits 8 8 8 8 8 8 8 8 8", 33);
        fault(s, "pew seats 8 sits 8 8 8 8 8 8 8 8 1;held 5", 33);
    }

    private static void sittersRefused(Sentences s) {
        s.says(35, "who sits nowhere by then)");
        fault(s, "pew seats 4 sits 1 1", 19);
        fault(s, "pew seats 4 sits 1 8 3 1", 23);
        fault(s, "pew seats 4 sits 0", 17);
        fault(s, "pew seats 4 sits 1 4", 19);
        fault(s, "pew seats 4 sits 8 5", 19);
        fault(s, "pew seats 1 sits 1;bed seats 1 sits 1", 36);
        NobodyBetween x = Rooms.after(Rooms::furnished);
        x.wipe();
        x.rise(4);
        s.due("who rose may be told", Rooms.tell(x, "pew seats 4 sits 4 1"), 1);
        s.dueRow("so they sit", x, 3, "41..");
        s.says(35, ": a new BENCH.");
        NobodyBetween y = Rooms.with("bench seats 2 sits 0 1");
        s.due("one more", Rooms.tell(y, "ring seats 1 sits 2"), 1);
        s.due("its number", y.where(2), 10);
        s.due("how many BENCHES", y.count(0), 2);
        s.dueRow("the other one stays", y, 0, "01");
    }

    private static void faults(Sentences s) {
        s.says(35, "FAULT: the place (from 0) of the first byte of the first TOKEN that can't stand there (a NUMBER that"
                + " isn't as told, another WORD, a byte that begins no TOKEN");
        fault(s, "#", 0);
        fault(s, " #", 1);
        fault(s, "\u00ff", 0);
        fault(s, "\u0000", 0);
        fault(s, "stool seats 3", 0);
        fault(s, "  stool seats 3", 2);
        fault(s, "weight 8 100;stool;#", 7);
        fault(s, "weight 1 2;held 1000;#", 16);
        fault(s, "weight 1 2;held 5;bench seats 0", 30);
        fault(s, "weight 1 2;held 5;bench seats 1 sits 1;;", 39);
        fault(s, "friends 1 2;secret 6 7;weight 6 2;held 5;table seats 8 sits 1 3;#", 64);
        fault(s, " ".repeat(119) + "#", 119);
        fault(s, "held 5" + " ".repeat(113) + "#", 119);
    }

    private static void sixthBench(Sentences s) {
        s.says(35, ", the WORD of a 6th BENCH: its own)");
        for (String word : KINDS) {
            fault(s, Rooms::full, word + " seats 1", 0);
            fault(s, Rooms::full, word + " seats 0", 0);
            fault(s, Rooms::full, word, 0);
        }
        fault(s, "pew seats 1;bed seats 1;raft seats 1", 24);
        fault(s, "pew seats 1;bed seats 1;held 5;raft seats 1", 31);
        reads(s, "pew seats 1;bed seats 1;raft seats 1;pew seats 1;bed seats 1", 5);
        fault(s, Rooms::bare, "pew seats 1;bed seats 1;raft seats 1;pew seats 1;bed seats 1;raft seats 1", 61);
        NobodyBetween x = Rooms.after(Rooms::full);
        x.wipe();
        s.due("other ITEMS still are told", Rooms.tell(x, "held 5;friends 0 5"), 2);
    }

    private static void endsTooEarly(Sentences s) {
        s.says(35, ", or how many bytes there are if it ends too early.");
        fault(s, "", 0);
        fault(s, "   ", 3);
        fault(s, "held", 4);
        fault(s, "held  ", 6);
        fault(s, "held 5;", 7);
        fault(s, "held 5;   ", 10);
        fault(s, "friends 2", 9);
        fault(s, "friends 2 ", 10);
        fault(s, "bench seats", 11);
        fault(s, "bench seats 3 sits", 18);
        fault(s, " ".repeat(120), 120);
        fault(s, "held 5;" + " ".repeat(113), 120);
        fault(s, " ".repeat(116) + "held", 120);
    }

    private static void told(Sentences s) {
        s.says(35, "THE TAPE is a TEXT, and empty then; all that it tells is so, item by item: how many ITEMS.");
        NobodyBetween x = Rooms.after(Rooms::furnished);
        s.due("held 77;weight 6 9", x.text(), 2);
        s.due("it is empty", x.count(5), 0);
        s.due("HELD", x.count(4), 77);
        s.due("WEIGHT", x.weight(6, 10), 9);
        s.due("there is room for 120 again", Rooms.tell(x, "held 1;".repeat(16) + "held 100"), 17);
        s.due("the last one counts", x.count(4), 100);
        s.due("the later one counts", Rooms.tell(x, "secret 0 7;friends 7 0;friends 3 4;secret 4 3"), 4);
        s.due("FRIENDS", x.are(0, 7), 1);
        s.due("SECRET", x.are(3, 4), 2);
        s.due("BENCHES in their order", Rooms.tell(x, "raft seats 2 sits 3;bed seats 1 sits 6"), 2);
        s.due("the first", x.where(3), 30);
        s.due("the second", x.where(6), 40);
        s.due("z stays", x.count(6), -5);
        s.due("the image stays", x.undo(), 2);
    }

    private static void faulty(Sentences s) {
        s.says(35, "With a FAULT: -1 less the FAULT (nothing changes but that THE TAPE is empty; no finding).");
        NobodyBetween x = Rooms.with("held 3");
        s.due("the first place", Rooms.tell(x, "#"), -1);
        s.due("THE TAPE", x.count(5), 0);
        s.due("behind the last place", Rooms.tell(x, " ".repeat(120)), -121);
        s.due("THE TAPE", x.count(5), 0);
        s.due("all items ahead of it, too", Rooms.tell(x, "held 9;bench seats 2 sits 1;friends 0 0"), -39);
        s.due("HELD", x.count(4), 3);
        s.due("BENCHES", x.count(0), 0);
        s.due("no finding", x.status(-1), 0);
        s.due("the next text", Rooms.tell(x, "bench seats 2 sits 1"), 1);
        s.due("its BENCH", x.where(1), 0);
    }
}
