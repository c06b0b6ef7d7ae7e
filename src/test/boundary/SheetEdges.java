/** Promises 36 to 42: spots, sheets. */
final class SheetEdges {
    private static final int[] BITS = {8, 16, 32};

    private SheetEdges() {
    }

    static void run(Sentences s) {
        hold(s);
        as(s);
        asRefused(s);
        sheet(s);
        sheetRefused(s);
        write(s);
        writeRefused(s);
        copy(s);
        copyRefused(s);
        copyBeyond(s);
        load(s);
        loadEnds(s);
        readingRefused(s, 41, (x, sheet, bench) -> x.load(sheet, bench));
        judge(s);
        judgeAnswers(s);
        readingRefused(s, 42, (x, sheet, bench) -> x.judge(sheet, bench));
    }

    private static void hold(Sentences s) {
        s.says(36, "SPOTS 0 to 9 hold a BENCH or nothing (at first).");
        s.range(Rooms::furnished, "spot", 0, 9, (x, v) -> x.hold(v, 1));
        NobodyBetween x = Rooms.after(Rooms::full);
        for (int spot = 0; spot < 10; spot++) {
            s.due("hold(" + spot + ", ..)", x.hold(spot, spot % 5), 1);
        }
        for (int spot = 0; spot < 10; spot++) {
            s.due("each its own", x.as(spot, 0), spot % 5);
        }
        s.says(36, "A SPOT holds a BENCH, or nothing (-1): 1.");
        s.due("nothing", x.hold(9, -1), 1);
        s.due("nothing is held", x.as(9, 0), Sentences.MISSING);
        s.due("nothing again", x.hold(9, -1), 1);
        s.due("another one", x.hold(8, 0), 1);
        s.due("is held", x.as(8, 0), 0);
        s.says(36, "BEYOND.");
        s.range(Rooms::furnished, "bench of 3", -1, 2, (y, v) -> y.hold(9, v));
        s.range(Rooms::full, "bench of 5", -1, 4, (y, v) -> y.hold(9, v));
        s.range(Rooms::bare, "bench of none", -1, -1, (y, v) -> y.hold(0, v));
        s.refused(Rooms::furnished, "nothing, on no spot", y -> y.hold(10, -1), Sentences.BEYOND);
    }

    private static void as(Sentences s) {
        s.says(37, "What a SPOT holds as one of a kind (0 to 6): the number of the BENCH.");
        String[] lines = {"0", "01", "02", "03", "014", "025", "036"};
        for (int kind = 0; kind < 7; kind++) {
            NobodyBetween x = Rooms.with("bench seats 1;bench seats 1");
            x.hold(9, 1);
            x.turn(1, kind);
            for (int as = 0; as < 7; as++) {
                boolean is = lines[kind].indexOf('0' + as) >= 0;
                s.due(kind + " as " + as, x.as(9, as), is ? 1 : Sentences.KIND);
            }
        }
        s.says(37, "BEYOND.");
        s.beyond(Rooms::furnished, "spot", (x, v) -> x.as(v, 0), -1, 10, 32, 256, Integer.MIN_VALUE,
                Integer.MAX_VALUE);
        s.beyond(Rooms::furnished, "kind", (x, v) -> x.as(0, v), -1, 7, 32, 256, Integer.MIN_VALUE,
                Integer.MAX_VALUE);
        s.taken(Rooms::furnished, "spot 0, kind 0", x -> x.as(0, 0));
        s.taken(Rooms::furnished, "spot 9, kind 6", x -> x.as(9, 6));
        s.refused(Rooms::furnished, "BEYOND ahead of MISSING", x -> x.as(5, 7), Sentences.BEYOND);
        s.refused(Rooms::furnished, "BEYOND ahead of MISSING", x -> x.as(5, -1), Sentences.BEYOND);
    }

    private static void asRefused(Sentences s) {
        s.says(37, "MISSING: it holds nothing.");
        s.refused(Rooms::furnished, "nothing at first", x -> x.as(5, 0), Sentences.MISSING);
        s.refused(x -> {
            Rooms.furnished(x);
            x.hold(0, -1);
        }, "nothing any more", x -> x.as(0, 6), Sentences.MISSING);
        s.says(37, "KIND: it isn't of that kind, nor of one under it.");
        s.refused(Rooms::furnished, "a BENCH is no PEW", x -> x.as(1, 1), Sentences.KIND);
        s.refused(Rooms::furnished, "a TABLE is no PEW", x -> x.as(0, 1), Sentences.KIND);
        s.refused(Rooms::furnished, "a TABLE is no BED", x -> x.as(0, 4), Sentences.KIND);
        s.taken(Rooms::furnished, "a TABLE is a RING", x -> x.as(0, 2));
        s.refused(x -> {
            Rooms.furnished(x);
            x.turn(1, 2);
        }, "a RING is no TABLE", x -> x.as(0, 5), Sentences.KIND);
    }

    private static void sheet(Sentences s) {
        s.says(38, "SHEETS 0 to 3: rows of at most 40 numbers of 8, 16 or 32 bits");
        s.range(Rooms::furnished, "sheet", 0, 3, (x, v) -> x.sheet(v, 8, 5));
        for (int bits : BITS) {
            NobodyBetween x = new NobodyBetween();
            for (int n : new int[] {0, 1, 39, 40}) {
                s.due("sheet(3, " + bits + ", " + n + ")", x.sheet(3, bits, n), n);
                s.due("the last one", x.write(3, n - 1, 1), n == 0 ? Sentences.BEYOND : 1);
                s.due("behind it", x.write(3, n, 1), Sentences.BEYOND);
            }
        }
        s.says(38, "or MISSING (at first).");
        NobodyBetween y = new NobodyBetween();
        for (int i = 0; i < 4; i++) {
            s.due("at first", y.write(i, 0, 0), Sentences.MISSING);
        }
        s.says(38, "A sheet has n numbers, all 0, of 8, 16 or 32 bits;");
        NobodyBetween x = Rooms.with("bench seats 8");
        Rooms.writeAll(x, 0, 8, 5, 6, 7);
        s.due("anew", x.sheet(0, 8, 3), 3);
        s.due("0, and 0 again", x.judge(0, 0), 2);
        s.due("0 comes three times", x.load(0, 0), 3);
        s.dueRow("to the last", x, 0, "..0.....");
        Rooms.writeAll(x, 0, 8, 5, 6, 7, 5);
        s.due("fewer", x.sheet(0, 8, 1), 1);
        s.due("more", x.sheet(0, 8, 4), 4);
        x.rise(0);
        s.due("all are 0", x.load(0, 0), 4);
        s.dueRow("to the last", x, 0, "...0....");
        s.says(38, "bits 0: it is MISSING: n (0 if it is MISSING).");
        for (int n : new int[] {0, 1, 40}) {
            x.sheet(0, 16, 2);
            s.due("sheet(0, 0, " + n + ")", x.sheet(0, 0, n), 0);
            s.due("MISSING", x.write(0, 0, 1), Sentences.MISSING);
        }
    }

    private static void sheetRefused(Sentences s) {
        s.says(38, "BEYOND: no such sheet, other bits.");
        for (int bits : new int[] {-32, -16, -8, -1, 1, 4, 7, 9, 15, 17, 24, 31, 33, 40, 64, 264, Integer.MIN_VALUE,
            Integer.MAX_VALUE}) {
            s.refused(Rooms::furnished, "bits " + bits, x -> x.sheet(0, bits, 6), Sentences.BEYOND);
        }
        s.refused(Rooms::furnished, "no such sheet ahead of SIZE", x -> x.sheet(4, 8, -1), Sentences.BEYOND);
        s.refused(Rooms::furnished, "other bits ahead of SIZE", x -> x.sheet(0, 9, -1), Sentences.BEYOND);
        s.refused(Rooms::furnished, "no such sheet, bits 0", x -> x.sheet(-1, 0, 0), Sentences.BEYOND);
        s.says(38, "SIZE: n is below 0 (also with bits 0).");
        for (int bits : new int[] {0, 8, 16, 32}) {
            s.taken(Rooms::furnished, "n 0, bits " + bits, x -> x.sheet(0, bits, 0));
            s.refused(Rooms::furnished, "n -1, bits " + bits, x -> x.sheet(0, bits, -1), Sentences.SIZE);
            s.refused(Rooms::furnished, "n far below, bits " + bits, x -> x.sheet(0, bits, Integer.MIN_VALUE),
                    Sentences.SIZE);
        }
        s.says(38, "BEYOND: n is above 40 (also with bits 0).");
        for (int bits : new int[] {0, 8, 16, 32}) {
            s.taken(Rooms::furnished, "n 40, bits " + bits, x -> x.sheet(3, bits, 40));
            s.refused(Rooms::furnished, "n 41, bits " + bits, x -> x.sheet(0, bits, 41), Sentences.BEYOND);
            s.refused(Rooms::furnished, "n far above, bits " + bits, x -> x.sheet(0, bits, Integer.MAX_VALUE),
                    Sentences.BEYOND);
        }
    }

    private static void write(Sentences s) {
        s.says(39, "Number i of a sheet becomes v (its lowest bits): 1.");
        NobodyBetween x = Rooms.with("bench seats 1;bench seats 8");
        int[][] nobodyWith = {{8, 7}, {264, 1}, {-248, 1}, {65544, 3}, {-65528, 3}, {16777224, 3}, {9, 0}, {-8, 0},
            {136, 0}};
        for (int[] row : nobodyWith) {
            for (int b = 0; b < 3; b++) {
                boolean is = (row[1] >> b & 1) != 0;
                x.sheet(0, BITS[b], 1);
                s.due("write", x.write(0, 0, row[0]), 1);
                s.due(row[0] + " of " + BITS[b] + " bits", x.judge(0, 0), is ? 0 : 1);
            }
        }
        Rooms.writeAll(x, 1, 32, 7, 6, 5);
        s.due("the last one alone", x.write(1, 2, 0), 1);
        x.load(1, 1);
        s.dueRow("7, 6, 0", x, 1, "760.....");
        s.says(39, "(told with their sign: of 8 bits 255 is -1)");
        int[][] signs = {{8, 255}, {8, 128}, {8, -1}, {8, -128}, {16, 65535}, {16, 32768}, {16, 255}, {32, -1},
            {32, 255}, {32, Integer.MIN_VALUE}, {32, Integer.MAX_VALUE}};
        for (int[] row : signs) {
            Rooms.writeAll(x, 2, row[0], row[1]);
            s.due(row[1] + " of " + row[0] + " bits is no PERSON", x.judge(2, 0), 1);
            s.due("nor comes", x.load(2, 0), 0);
        }
    }

    private static void writeRefused(Sentences s) {
        s.says(39, "BEYOND: no such sheet.");
        s.beyond(Rooms::furnished, "sheet", (x, v) -> x.write(v, 0, 1), -1, 4, 32, 256, Integer.MIN_VALUE,
                Integer.MAX_VALUE);
        s.says(39, "MISSING.");
        s.refused(Rooms::furnished, "it is missing", x -> x.write(3, 0, 1), Sentences.MISSING);
        s.refused(Rooms::furnished, "ahead of no such number", x -> x.write(3, -1, 1), Sentences.MISSING);
        s.says(39, "BEYOND: no such number.");
        s.range(Rooms::furnished, "i of 6", 0, 5, (x, v) -> x.write(0, v, 7));
        s.range(Rooms::furnished, "i of 2", 0, 1, (x, v) -> x.write(2, v, 7));
        s.refused(x -> x.sheet(0, 8, 0), "i of none", x -> x.write(0, 0, 7), Sentences.BEYOND);
    }

    private static void dueSheet(Sentences s, String what, NobodyBetween x, int sheet, String row) {
        for (int person = 0; person < 8; person++) {
            x.rise(person);
        }
        s.due(what + ": load", x.load(sheet, 0), row.length());
        s.dueRow(what, x, 0, row);
    }

    private static void copy(Sentences s) {
        s.says(40, "n numbers of a sheet from one on come to another one from one on (as they all were): n.");
        NobodyBetween x = Rooms.with("bench seats 8");
        for (int bits : BITS) {
            Rooms.writeAll(x, 0, bits, 0, 1, 2, 3, 4, 5, 6, 7);
            Rooms.writeAll(x, 1, bits, 8, 8, 8, 8, 8, 8, 8, 8);
            s.due("the last to the first", x.copy(0, 7, 1, 0, 1), 1);
            s.due("the first to the last", x.copy(0, 0, 1, 7, 1), 1);
            s.due("some", x.copy(0, 2, 1, 3, 3), 3);
            s.due("none", x.copy(0, 0, 1, 0, 0), 0);
            dueSheet(s, "as told", x, 1, "7..234.0");
            dueSheet(s, "stays", x, 0, "01234567");
            s.due("all", x.copy(0, 0, 1, 0, 8), 8);
            dueSheet(s, "all", x, 1, "01234567");
        }
        Rooms.writeAll(x, 2, 8, 0, 1, 2, 8, 8, 8, 8, 8);
        s.due("on itself, on", x.copy(2, 0, 2, 1, 3), 3);
        x.write(2, 0, 8);
        dueSheet(s, "as they all were", x, 2, ".012....");
        s.due("on itself, back", x.copy(2, 1, 2, 0, 3), 3);
        x.write(2, 3, 8);
        dueSheet(s, "as they all were", x, 2, "012.....");
        s.due("on itself, all", x.copy(2, 0, 2, 0, 8), 8);
        dueSheet(s, "as they were", x, 2, "012.....");
        x.sheet(3, 8, 40);
        s.due("40 numbers", x.copy(3, 0, 3, 0, 40), 40);
        s.due("the last of 40", x.copy(3, 39, 2, 7, 1), 1);
    }

    private static void copyRefused(Sentences s) {
        s.says(40, "BEYOND: no such sheet (either).");
        s.beyond(Rooms::furnished, "from", (x, v) -> x.copy(v, 0, 0, 0, 1), -1, 4, Integer.MIN_VALUE,
                Integer.MAX_VALUE);
        s.beyond(Rooms::furnished, "to", (x, v) -> x.copy(0, 0, v, 0, 1), -1, 4, Integer.MIN_VALUE, Integer.MAX_VALUE);
        s.refused(Rooms::furnished, "ahead of MISSING", x -> x.copy(3, 0, 4, 0, 1), Sentences.BEYOND);
        s.refused(Rooms::furnished, "ahead of MISSING", x -> x.copy(-1, 0, 3, 0, 1), Sentences.BEYOND);
        s.says(40, "MISSING: one is.");
        s.refused(Rooms::furnished, "the one", x -> x.copy(3, 0, 0, 0, 1), Sentences.MISSING);
        s.refused(Rooms::furnished, "the other", x -> x.copy(0, 0, 3, 0, 1), Sentences.MISSING);
        s.refused(Rooms::furnished, "both", x -> x.copy(3, 0, 3, 0, 0), Sentences.MISSING);
        s.refused(Rooms::furnished, "ahead of BEYOND", x -> x.copy(0, -1, 3, -1, -1), Sentences.MISSING);
        s.says(40, "KIND: they are not of as many bits.");
        s.refused(Rooms::furnished, "8 and 16", x -> x.copy(0, 0, 1, 0, 1), Sentences.KIND);
        s.refused(Rooms::furnished, "16 and 8", x -> x.copy(1, 0, 0, 0, 1), Sentences.KIND);
        s.refused(Rooms::furnished, "16 and 32", x -> x.copy(1, 0, 2, 0, 0), Sentences.KIND);
        s.refused(Rooms::furnished, "32 and 8", x -> x.copy(2, 0, 0, 0, 1), Sentences.KIND);
        s.refused(Rooms::furnished, "ahead of BEYOND", x -> x.copy(0, -1, 1, 99, -1), Sentences.KIND);
    }

    /** Sheet 0 has 6 numbers, sheet 1 has 3, both of 8 bits. */
    private static void sixAndThree(NobodyBetween x) {
        Rooms.furnished(x);
        Rooms.writeAll(x, 1, 8, 7, 8, 6);
    }

    private static void copyBeyond(Sentences s) {
        s.says(40, "BEYOND: one has not so many (n 0, too), or from, to or n is below 0.");
        Sentences.Story both = SheetEdges::sixAndThree;
        s.range(both, "from, n 1", 0, 5, (x, v) -> x.copy(0, v, 1, 0, 1));
        s.range(both, "from, n 3", 0, 3, (x, v) -> x.copy(0, v, 1, 0, 3));
        s.range(both, "from, n 0", 0, 6, (x, v) -> x.copy(0, v, 1, 0, 0));
        s.range(both, "to, n 1", 0, 2, (x, v) -> x.copy(0, 0, 1, v, 1));
        s.range(both, "to, n 3", 0, 0, (x, v) -> x.copy(0, 0, 1, v, 3));
        s.range(both, "to, n 0", 0, 3, (x, v) -> x.copy(0, 0, 1, v, 0));
        s.range(both, "n to 3 numbers", 0, 3, (x, v) -> x.copy(0, 0, 1, 0, v));
        s.range(both, "n of 3 numbers", 0, 3, (x, v) -> x.copy(1, 0, 0, 0, v));
        s.range(both, "n of 6 numbers", 0, 6, (x, v) -> x.copy(0, 0, 0, 0, v));
        int[] far = {Integer.MIN_VALUE, Integer.MAX_VALUE};
        for (int one : far) {
            for (int other : far) {
                s.refused(both, "from and n far off", x -> x.copy(0, one, 1, 0, other), Sentences.BEYOND);
                s.refused(both, "to and n far off", x -> x.copy(0, 0, 1, one, other), Sentences.BEYOND);
                s.refused(both, "from and to far off", x -> x.copy(0, one, 1, other, 1), Sentences.BEYOND);
                s.refused(both, "from and to far off", x -> x.copy(0, one, 1, other, 0), Sentences.BEYOND);
            }
        }
    }

    private static void load(Sentences s) {
        s.says(41, "Numbers of a sheet, from its begin on, are who sits down on SEATS 0, 1, .. of a BENCH, as by sit()"
                + " (8: nobody, whoever sits there rises)");
        NobodyBetween x = Rooms.with("bench seats 3 sits 0 1 2;ring seats 3 sits 8 5;pew seats 8");
        Rooms.writeAll(x, 0, 8, 8, 5, 2);
        s.due("8, 5, 2 where 1 sits", x.load(0, 0), 1);
        s.dueRow("0 rose", x, 0, ".12");
        x.rise(1);
        s.due("8, 5, 2", x.load(0, 0), 3);
        s.dueRow("5 came, 2 stays", x, 0, ".52");
        s.dueRow("5 rose there", x, 1, "...");
        Rooms.writeAll(x, 0, 16, 6, 6, 6);
        s.due("6, 6, 6", x.load(0, 1), 3);
        s.dueRow("it goes on", x, 1, "..6");
        s.says(41, ": how many came (8s, too).");
        Rooms.writeAll(x, 0, 32, 7, 6, 5, 4, 3, 2, 1, 0);
        s.due("all 8", x.load(0, 2), 8);
        s.dueRow("all 8", x, 2, "76543210");
        Rooms.writeAll(x, 0, 8, 8, 8, 8, 8, 8, 8, 8, 8);
        s.due("8s alone", x.load(0, 2), 8);
        s.dueRow("all rose", x, 2, "........");
        x.sheet(0, 8, 0);
        s.due("none", x.load(0, 2), 0);
        Rooms.writeAll(x, 0, 8, 3);
        s.due("one", x.load(0, 2), 1);
        s.dueRow("one", x, 2, "3.......");
    }

    private static void loadEnds(Sentences s) {
        s.says(41, "It ends at the first that is none of these, for which there is no SEAT, or if another one sits"
                + " there.");
        int[] none = {9, -1, 100, -128};
        for (int v : none) {
            NobodyBetween x = Rooms.with("bench seats 3");
            Rooms.writeAll(x, 0, 8, 4, v, 5);
            s.due("4, " + v + ", 5", x.load(0, 0), 1);
            s.dueRow("4 alone", x, 0, "4..");
        }
        NobodyBetween few = Rooms.with("bench seats 2;bench seats 1");
        Rooms.writeAll(few, 0, 8, 0, 1, 2);
        s.due("two SEATS", few.load(0, 0), 2);
        s.dueRow("0 and 1", few, 0, "01");
        s.due("2 sits nowhere", few.where(2), Sentences.NONE);
        Rooms.writeAll(few, 0, 8, 8, 8, 8);
        s.due("two SEATS, 8s", few.load(0, 0), 2);
        few.sheet(0, 8, 40);
        s.due("one SEAT, 40 numbers", few.load(0, 1), 1);
        NobodyBetween taken = Rooms.with("bench seats 4 sits 8 7 8 6");
        Rooms.writeAll(taken, 0, 8, 0, 7, 1, 2);
        s.due("6 sits on the last", taken.load(0, 0), 3);
        s.dueRow("7 stays, 6 stays", taken, 0, "0716");
        Rooms.writeAll(taken, 0, 8, 7, 8, 8, 8);
        s.due("0 sits on the first", taken.load(0, 0), 0);
        s.dueRow("as it was", taken, 0, "0716");
        s.due("no finding but where(2)'s", taken.status(-1) + few.status(-1), 1);
    }

    /** A call with a sheet and a BENCH. */
    private interface Reading {
        int on(NobodyBetween x, int sheet, int bench);
    }

    private static void readingRefused(Sentences s, int promise, Reading act) {
        s.says(promise, "BEYOND: no such sheet.");
        s.beyond(Rooms::furnished, "sheet", (x, v) -> act.on(x, v, 0), -1, 4, 32, Integer.MIN_VALUE,
                Integer.MAX_VALUE);
        s.refused(Rooms::furnished, "no such sheet, no such BENCH", x -> act.on(x, 4, 3), Sentences.BEYOND);
        s.taken(Rooms::furnished, "sheet 0", x -> act.on(x, 0, 0));
        s.taken(y -> {
            Rooms.furnished(y);
            y.sheet(3, 8, 1);
        }, "sheet 3", x -> act.on(x, 3, 0));
        s.says(promise, "MISSING.");
        s.refused(Rooms::furnished, "it is missing", x -> act.on(x, 3, 0), Sentences.MISSING);
        s.refused(Rooms::furnished, "ahead of no such BENCH", x -> act.on(x, 3, 9), Sentences.MISSING);
        s.says(promise, "BEYOND: no such BENCH.");
        s.range(Rooms::furnished, "bench", 0, 2, (x, v) -> act.on(x, 0, v));
    }

    private static void judge(Sentences s) {
        s.says(42, "THE READER: numbers of a sheet are who sits on SEATS 0, 1, .. (8: nobody) in some SEATING (of however"
                + " many) on a BENCH of those told: 0 if it is one;");
        NobodyBetween x = Rooms.with("ring seats 8 sits 0;bench seats 1;friends 0 2;boat seats 2;held 9");
        Rooms.writeAll(x, 0, 8, 0, 1, 3, 2, 4, 5, 6, 7);
        s.due("all 8", x.judge(0, 0), 0);
        Rooms.writeAll(x, 0, 16, 8, 8, 8, 8, 8, 8, 8, 8);
        s.due("nobody", x.judge(0, 0), 0);
        Rooms.writeAll(x, 0, 32, 0, 1, 3, 4, 5, 6, 7, 8);
        s.due("7 of them", x.judge(0, 0), 0);
        Rooms.writeAll(x, 0, 32, 7);
        s.due("one on one", x.judge(0, 1), 0);
        Rooms.writeAll(x, 0, 32, 8);
        s.due("nobody on one", x.judge(0, 1), 0);
        Rooms.writeAll(x, 0, 8, 5, 6);
        s.due("a BOAT that lists not", x.judge(0, 2), 0);
        s.due("nobody moved", x.where(0) + x.count(1), 1);
        s.says(42, "42, if it doesn't HOLD (all these being right).");
        Rooms.writeAll(x, 0, 8, 5, 8);
        s.due("a BOAT that lists by 10, HELD 9", x.judge(0, 2), 42);
        x.held(10);
        s.due("HELD 10", x.judge(0, 2), 0);
        Rooms.writeAll(x, 0, 8, 1, 2, 8, 8, 8, 8, 8, 0);
        s.due("1 between 0 and 2, round", x.judge(0, 0), 42);
        x.turn(0, 0);
        s.due("not round", x.judge(0, 0), 0);
        s.asked(Rooms::furnished, "judge(2, 0)", y -> y.judge(2, 0), 2);
    }

    private static void judgeAnswers(Sentences s) {
        s.says(42, "else 1 and the place of the first that is no PERSON nor 8, or told twice (there the second time);");
        NobodyBetween x = Rooms.with("bench seats 3;friends 0 2");
        int[][] rows = {{9, 1, 2, 1}, {-1, 1, 2, 1}, {0, 9, 2, 2}, {0, 1, 9, 3}, {0, 1, 100, 3}, {0, 0, 1, 2},
            {0, 1, 0, 3}, {7, 7, 7, 2}, {1, 1, 9, 2}, {1, 9, 1, 2}, {8, 8, 9, 3}, {8, 8, 8, 0}, {8, 0, 8, 0},
            {0, 1, 2, 42}};
        for (int[] row : rows) {
            Rooms.writeAll(x, 0, 8, row[0], row[1], row[2]);
            s.due("judge of " + row[0] + ", " + row[1] + ", " + row[2], x.judge(0, 0), row[3]);
        }
        x.sheet(1, 16, 40);
        s.due("40 times 0", x.judge(1, 0), 2);
        for (int i = 0; i < 40; i++) {
            x.write(1, i, 8);
        }
        x.write(1, 39, 9);
        s.due("the last place", x.judge(1, 0), 40);
        s.says(42, "41, if there are not as many as SEATS,");
        x.write(1, 39, 8);
        s.due("40 on 3", x.judge(1, 0), 41);
        x.sheet(1, 16, 0);
        s.due("none on 3", x.judge(1, 0), 41);
        Rooms.writeAll(x, 1, 16, 0, 1);
        s.due("2 on 3", x.judge(1, 0), 41);
        Rooms.writeAll(x, 1, 16, 0, 1, 2, 3);
        s.due("4 on 3, that wouldn't HOLD", x.judge(1, 0), 41);
        Rooms.writeAll(x, 1, 16, 0, 1, 2, 2);
        s.due("told twice, ahead of 41", x.judge(1, 0), 4);
        Rooms.writeAll(x, 1, 16, 9);
        s.due("no PERSON, ahead of 41", x.judge(1, 0), 1);
        s.due("no finding", x.status(-1), 0);
    }
}
