/** Objects that boundary tests begin with. */
final class Rooms {
    private Rooms() {
    }

    static NobodyBetween after(Sentences.Story ahead) {
        NobodyBetween x = new NobodyBetween();
        ahead.on(x);
        return x;
    }

    static NobodyBetween with(String text) {
        return after(telling(text));
    }

    static Sentences.Story telling(String text) {
        return x -> {
            if (tell(x, text) < 1) {
                throw new IllegalStateException("text of a test has a fault: " + text);
            }
        };
    }

    static int tell(NobodyBetween x, String text) {
        feed(x, text);
        return x.text();
    }

    static void feed(NobodyBetween x, String text) {
        for (int at = 0; at < text.length(); at += 4) {
            int bytes = 0;
            int n = Math.min(4, text.length() - at);
            for (int i = 0; i < n; i++) {
                bytes = bytes << 8 | text.charAt(at + i);
            }
            if (x.feed(bytes, n) < 0) {
                throw new IllegalStateException("text of a test is too long: " + text);
            }
        }
    }

    static void writeAll(NobodyBetween x, int s, int bits, int... numbers) {
        x.sheet(s, bits, numbers.length);
        for (int i = 0; i < numbers.length; i++) {
            x.write(s, i, numbers[i]);
        }
    }

    static String row(NobodyBetween x, int bench) {
        StringBuilder told = new StringBuilder();
        for (int seat = 0; seat < x.benchOf(bench, 1); seat++) {
            int who = x.seat(bench, seat);
            told.append(who < 0 ? "." : String.valueOf(who));
        }
        return told.toString();
    }

    static void bare(NobodyBetween x) {
        x.count(0);
    }

    /**
     * Something of all there is: bench 0 is 0.2. (BENCH), 1 is 4.. (TABLE), 2 is .5...... (RAFT); spots
     * 0, 1 and 9 hold something; sheet 3 is missing; an image is kept that is unlike what is now.
     */
    static void furnished(NobodyBetween x) {
        tell(x, "friends 0 1;secret 2 3;weight 4 20;held 30;bench seats 4 sits 0 8 2;table seats 3 sits 4");
        x.hold(0, 1);
        x.seed(77);
        x.image();
        tell(x, "friends 5 6;weight 1 7;held 60;raft seats 8 sits 8 5;secret 1 7");
        x.hold(1, 0);
        x.hold(9, 2);
        x.over(true);
        x.seed(-5);
        writeAll(x, 0, 8, 1, 8, 3, 100, 0, 5);
        writeAll(x, 1, 16, 8, 7, 300);
        writeAll(x, 2, 32, 6, 70000);
        feed(x, "held 77;weight 6 9");
    }

    /** As furnished(), with as many benches as there may be. */
    static void full(NobodyBetween x) {
        furnished(x);
        x.bench(4, 1);
        x.bench(2, 2);
    }

    /** As furnished(), but no image is kept. */
    static void torn(NobodyBetween x) {
        furnished(x);
        x.tear();
    }
}
