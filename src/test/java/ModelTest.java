import java.math.BigInteger;
import java.util.ArrayList;
import java.util.Arrays;
import java.util.Collections;
import java.util.HashSet;
import java.util.List;
import java.util.Random;
import java.util.Set;
import java.util.TreeSet;
import java.util.regex.Matcher;
import java.util.regex.Pattern;

/**
 * Long runs of calls on the class and on a second, plain model of the document, which goes through
 * all there is without a thought for speed: both must always answer the same.
 */
public final class ModelTest {
    private static final int RUNS = 250;
    private static final int CALLS = 512;
    private static final int METHODS = 47;

    public static void main(String[] args) {
        long calls = 0;
        for (int run = 0; run < RUNS; run++) {
            Pair pair = new Pair(new Random(7919L * run + 1));
            for (int call = 0; call < CALLS; call++) {
                pair.callSomething();
                calls++;
                if (pair.told != null) {
                    System.out.println("run " + run + ", call " + call + ": " + pair.told);
                    for (String row : pair.history) {
                        System.out.println("    " + row);
                    }
                    System.exit(1);
                }
            }
        }
        System.out.println(calls + " calls answered alike");
    }

    /** An object, its model, and a source of calls for both. */
    private static final class Pair {
        final Random random;
        final NobodyBetween x = new NobodyBetween();
        final Model m = new Model();
        final List<String> history = new ArrayList<>();
        final int wildness;
        String told = null;

        Pair(Random random) {
            this.random = random;
            wildness = 5 + random.nextInt(60);
        }

        /** Mostly from low to high, now and then anything. */
        int in(int low, int high) {
            if (random.nextInt(wildness) == 0) {
                int[] odd = {low - 1, high + 1, -1, 8, 256, -2147483648, 2147483647, random.nextInt()};
                return odd[random.nextInt(odd.length)];
            }
            return low + random.nextInt(high - low + 1);
        }

        int person() {
            return in(0, 7);
        }

        int bench() {
            return in(0, Math.max(0, m.s.benches.size() - 1));
        }

        int seat() {
            return in(0, random.nextInt(8));
        }

        int set() {
            return random.nextInt(4) == 0 ? in(0, 255) : in(0, 255) & random.nextInt(256);
        }

        void same(String call, int got, int want) {
            history.add(call + " = " + got);
            if (got != want) {
                told = call + " answered " + got + ", the model " + want;
            }
        }

        void callSomething() {
            int method = random.nextInt(METHODS + 12);
            if (method >= METHODS) {
                int[] often = {1, 7, 7, 13, 13, 13, 29, 29, 18, 40, 27, 16};
                method = often[method - METHODS];
            }
            int[] a = argumentsOf(method);
            String call = NAMES[method] + Arrays.toString(a);
            switch (method) {
                case 34 -> {
                    tellText();
                    same(call, x.text(), m.text());
                }
                default -> same(call, onObject(method, a), onModel(method, a));
            }
            if (told == null && random.nextInt(8) == 0) {
                compareAll();
            }
        }

        void compareAll() {
            for (int what = 0; what < 8; what++) {
                same("(count " + what + ")", x.count(what), m.count(what));
            }
            for (int which = -1; which < 7; which++) {
                same("(status " + which + ")", x.status(which), m.status(which));
            }
            for (int bench = 0; bench < m.s.benches.size(); bench++) {
                for (int seat = 0; seat < m.s.benches.get(bench).who.length; seat++) {
                    same("(seat " + bench + " " + seat + ")", x.seat(bench, seat), m.seat(bench, seat));
                }
            }
        }

        void tellText() {
            if (random.nextInt(3) > 0) {
                x.wipe();
                m.wipe();
            }
            String text = randomText();
            for (int i = 0; i < text.length(); i++) {
                same("feed " + text.charAt(i), x.feed(text.charAt(i), 1), m.feed(text.charAt(i), 1));
            }
        }

        String randomText() {
            StringBuilder text = new StringBuilder();
            int items = 1 + random.nextInt(4);
            for (int i = 0; i < items; i++) {
                text.append(i == 0 ? "" : ";").append(randomItem());
            }
            if (random.nextInt(3) == 0 && text.length() > 0) {
                String bytes = " ;;0189az\u00e9A";
                int at = random.nextInt(text.length());
                switch (random.nextInt(3)) {
                    case 0 -> text.setCharAt(at, bytes.charAt(random.nextInt(bytes.length())));
                    case 1 -> text.deleteCharAt(at);
                    default -> text.setLength(at);
                }
            }
            return text.toString();
        }

        String randomItem() {
            String[] kinds = {"bench", "pew", "ring", "boat", "bed", "table", "raft"};
            switch (random.nextInt(7)) {
                case 0:
                    return "friends " + number(8) + " " + number(8);
                case 1:
                    return "secret" + number(8) + "  " + number(8);
                case 2:
                    return "weight " + number(8) + " " + number(100);
                case 3:
                    return " held " + number(1001);
                default:
                    StringBuilder item = new StringBuilder(kinds[random.nextInt(7)]);
                    int seats = 1 + random.nextInt(8);
                    item.append(" seats ").append(random.nextInt(20) == 0 ? number(12) : "" + seats);
                    if (random.nextBoolean()) {
                        item.append(" sits");
                        int told = random.nextInt(seats + 1) + (random.nextInt(9) == 0 ? 1 : 0);
                        List<Integer> persons = new ArrayList<>(List.of(0, 1, 2, 3, 4, 5, 6, 7));
                        Collections.shuffle(persons, random);
                        for (int i = 0; i < told && i < 8; i++) {
                            item.append(' ').append(random.nextInt(3) > 0 ? 8 : persons.get(i));
                        }
                    }
                    return item.toString();
            }
        }

        String number(int bound) {
            return (random.nextInt(9) == 0 ? "0" : "") + random.nextInt(bound);
        }

        int[] argumentsOf(int method) {
            switch (method) {
                case 1:
                    return new int[] {person(), person(), in(0, 2)};
                case 2:
                    return new int[] {person(), person()};
                case 3:
                    return new int[] {person(), random.nextBoolean() ? in(8, 12) : in(1, 99)};
                case 4:
                    return new int[] {random.nextInt(2)};
                case 5:
                    return new int[] {random.nextBoolean() ? in(0, 60) : in(0, 999)};
                case 6, 14, 15, 25:
                    return new int[] {person()};
                case 7:
                    return new int[] {in(0, 6), in(1, 8)};
                case 8:
                    return new int[] {bench(), in(0, 4)};
                case 9:
                    return new int[] {bench(), in(0, 6)};
                case 10:
                    return new int[] {bench(), seat()};
                case 11:
                    return new int[] {bench(), seat(), in(0, 1)};
                case 12, 26, 27, 28, 30:
                    return new int[] {bench()};
                case 13:
                    return new int[] {person(), bench(), seat()};
                case 16, 17:
                    return new int[] {person(), bench()};
                case 18:
                    return new int[] {bench(), random.nextBoolean() ? in(1, 3) : in(1, 20)};
                case 19, 21, 22, 24:
                    return new int[] {bench(), set()};
                case 20:
                    return new int[] {bench(), set(), random.nextBoolean() ? in(0, 9) : in(0, 500)};
                case 23:
                    return new int[] {bench(), set(), person(), seat()};
                case 29:
                    return new int[] {bench(), in(1, 7)};
                case 31:
                    return new int[] {random.nextInt()};
                case 32:
                    return new int[] {random.nextInt(), in(1, 4)};
                case 35:
                    return new int[] {in(0, 9), random.nextInt(5) == 0 ? -1 : bench()};
                case 36:
                    return new int[] {in(0, 9), in(0, 6)};
                case 37:
                    return new int[] {in(0, 3), bits(), random.nextInt(3) == 0 ? in(0, 40) : in(0, 8)};
                case 38:
                    return new int[] {in(0, 3), in(0, 7), value()};
                case 39:
                    return new int[] {in(0, 3), in(0, 4), in(0, 3), in(0, 4), in(0, 5)};
                case 40, 41:
                    return new int[] {in(0, 3), bench()};
                case 45:
                    return new int[] {in(0, 7)};
                case 46:
                    return new int[] {in(-1, 6)};
                default:
                    return new int[] {};
            }
        }

        int bits() {
            int[] all = {8, 8, 8, 16, 32, 0, 1, 24};
            return all[random.nextInt(random.nextInt(wildness) < 3 ? 8 : 5)];
        }

        int value() {
            int[] high = {0, 0, 0, 0x100, 0x10000, 0xFFFFFF00};
            return random.nextInt(9) == 0 ? in(-1, 9) : random.nextInt(9) + high[random.nextInt(6)];
        }

        int onObject(int method, int[] a) {
            switch (method) {
                case 1: return x.friends(a[0], a[1], a[2]);
                case 2: return x.are(a[0], a[1]);
                case 3: return x.weight(a[0], a[1]);
                case 4: return x.over(a[0] == 1);
                case 5: return x.held(a[0]);
                case 6: return x.circle(a[0]);
                case 7: return x.bench(a[0], a[1]);
                case 8: return x.benchOf(a[0], a[1]);
                case 9: return x.turn(a[0], a[1]);
                case 10: return x.seat(a[0], a[1]);
                case 11: return x.beside(a[0], a[1], a[2]);
                case 12: return x.wrong(a[0]);
                case 13: return x.sit(a[0], a[1], a[2]);
                case 14: return x.rise(a[0]);
                case 15: return x.where(a[0]);
                case 16: return x.may(a[0], a[1]);
                case 17: return x.kind(a[0], a[1]);
                case 18: return x.come(a[0], a[1]);
                case 19: return x.seatings(a[0], a[1]);
                case 20: return x.lay(a[0], a[1], a[2]);
                case 21: return x.most(a[0], a[1]);
                case 22: return x.frees(a[0], a[1]);
                case 23: return x.often(a[0], a[1], a[2], a[3]);
                case 24: return x.needs(a[0], a[1]);
                case 25: return x.gain(a[0]);
                case 26: return x.worth(a[0]);
                case 27: return x.exchange(a[0]);
                case 28: return x.shows(a[0]);
                case 29: return x.course(a[0], a[1]);
                case 30: return x.turns(a[0]);
                case 31: return x.seed(a[0]);
                case 32: return x.feed(a[0], a[1]);
                case 33: return x.wipe();
                case 35: return x.hold(a[0], a[1]);
                case 36: return x.as(a[0], a[1]);
                case 37: return x.sheet(a[0], a[1], a[2]);
                case 38: return x.write(a[0], a[1], a[2]);
                case 39: return x.copy(a[0], a[1], a[2], a[3], a[4]);
                case 40: return x.load(a[0], a[1]);
                case 41: return x.judge(a[0], a[1]);
                case 42: return x.image();
                case 43: return x.undo();
                case 44: return x.tear();
                case 45: return x.count(a[0]);
                case 46: return x.status(a[0]);
                default: return 0;
            }
        }

        int onModel(int method, int[] a) {
            switch (method) {
                case 1: return m.friends(a[0], a[1], a[2]);
                case 2: return m.are(a[0], a[1]);
                case 3: return m.weight(a[0], a[1]);
                case 4: return m.over(a[0] == 1);
                case 5: return m.held(a[0]);
                case 6: return m.circle(a[0]);
                case 7: return m.bench(a[0], a[1]);
                case 8: return m.benchOf(a[0], a[1]);
                case 9: return m.turn(a[0], a[1]);
                case 10: return m.seat(a[0], a[1]);
                case 11: return m.beside(a[0], a[1], a[2]);
                case 12: return m.wrong(a[0]);
                case 13: return m.sit(a[0], a[1], a[2]);
                case 14: return m.rise(a[0]);
                case 15: return m.where(a[0]);
                case 16: return m.may(a[0], a[1]);
                case 17: return m.kind(a[0], a[1]);
                case 18: return m.come(a[0], a[1]);
                case 19: return m.seatings(a[0], a[1]);
                case 20: return m.lay(a[0], a[1], a[2]);
                case 21: return m.most(a[0], a[1]);
                case 22: return m.frees(a[0], a[1]);
                case 23: return m.often(a[0], a[1], a[2], a[3]);
                case 24: return m.needs(a[0], a[1]);
                case 25: return m.gain(a[0]);
                case 26: return m.worth(a[0]);
                case 27: return m.exchange(a[0]);
                case 28: return m.shows(a[0]);
                case 29: return m.course(a[0], a[1]);
                case 30: return m.turns(a[0]);
                case 31: return m.seed(a[0]);
                case 32: return m.feed(a[0], a[1]);
                case 33: return m.wipe();
                case 35: return m.hold(a[0], a[1]);
                case 36: return m.as(a[0], a[1]);
                case 37: return m.sheet(a[0], a[1], a[2]);
                case 38: return m.write(a[0], a[1], a[2]);
                case 39: return m.copy(a[0], a[1], a[2], a[3], a[4]);
                case 40: return m.load(a[0], a[1]);
                case 41: return m.judge(a[0], a[1]);
                case 42: return m.image();
                case 43: return m.undo();
                case 44: return m.tear();
                case 45: return m.count(a[0]);
                case 46: return m.status(a[0]);
                default: return 0;
            }
        }
    }

    private static final String[] NAMES = {"-", "friends", "are", "weight", "over", "held", "circle", "bench",
        "benchOf", "turn", "seat", "beside", "wrong", "sit", "rise", "where", "may", "kind", "come", "seatings",
        "lay", "most", "frees", "often", "needs", "gain", "worth", "exchange", "shows", "course", "turns", "seed",
        "feed", "wipe", "text", "hold", "as", "sheet", "write", "copy", "load", "judge", "image", "undo", "tear",
        "count", "status"};

    private static final class MBench {
        int kind;
        Integer[] who;

        MBench(int kind, int seats) {
            this.kind = kind;
            who = new Integer[seats];
        }

        MBench(MBench other) {
            kind = other.kind;
            who = other.who.clone();
        }
    }

    /** What an image keeps. */
    private static final class State {
        int[][] bond = new int[8][8];
        int[] weight = new int[8];
        boolean over = false;
        int held = 50;
        List<MBench> benches = new ArrayList<>();
        Integer[] spots = new Integer[10];
        int z = 1;

        State() {
            Arrays.fill(weight, 10);
        }

        State(State o) {
            for (int i = 0; i < 8; i++) {
                bond[i] = o.bond[i].clone();
            }
            weight = o.weight.clone();
            over = o.over;
            held = o.held;
            for (MBench b : o.benches) {
                benches.add(new MBench(b));
            }
            spots = o.spots.clone();
            z = o.z;
        }
    }

    /** A fault of a text, told by its place. */
    private static final class Fault extends Exception {
        private static final long serialVersionUID = 1L;
        final int place;

        Fault(int place) {
            this.place = place;
        }
    }

    private static final class Token {
        String text;
        int place;

        Token(String text, int place) {
            this.text = text;
            this.place = place;
        }
    }

    /** The document, word by word. */
    private static final class Model {
        static final int BEYOND = -1000001;
        static final int FULL = -1000002;
        static final int KIND = -1000003;
        static final int NONE = -1000004;
        static final int STATE = -1000005;
        static final int MISSING = -1000006;
        static final int SIZE = -1000007;

        State s = new State();
        State kept = null;
        String tape = "";
        int[] bits = new int[4];
        int[][] sheets = new int[4][];
        List<Integer> findings = new ArrayList<>();

        int f(int finding) {
            findings.add(finding);
            return finding;
        }

        boolean in(int v, int low, int high) {
            return low <= v && v <= high;
        }

        boolean isBench(int b) {
            return in(b, 0, s.benches.size() - 1);
        }

        boolean isSeat(int b, int seat) {
            return isBench(b) && in(seat, 0, s.benches.get(b).who.length - 1);
        }

        boolean count(State st, int one, int other) {
            return st.bond[one][other] == 1 || st.bond[one][other] == 2 && st.over;
        }

        int friends(int one, int other, int how) {
            if (!in(one, 0, 7) || !in(other, 0, 7) || one == other || !in(how, 0, 2)) {
                return f(BEYOND);
            }
            int was = s.bond[one][other];
            s.bond[one][other] = how;
            s.bond[other][one] = how;
            return was;
        }

        int are(int one, int other) {
            return !in(one, 0, 7) || !in(other, 0, 7) || one == other ? f(BEYOND) : s.bond[one][other];
        }

        int weight(int p, int v) {
            if (!in(p, 0, 7) || !in(v, 1, 99)) {
                return f(BEYOND);
            }
            int was = s.weight[p];
            s.weight[p] = v;
            return was;
        }

        int over(boolean is) {
            int was = s.over ? 1 : 0;
            s.over = is;
            return was;
        }

        int held(int v) {
            if (!in(v, 0, 999)) {
                return f(BEYOND);
            }
            int was = s.held;
            s.held = v;
            return was;
        }

        int circle(int p) {
            if (!in(p, 0, 7)) {
                return f(BEYOND);
            }
            int set = 0;
            for (int q = 0; q < 8; q++) {
                set += count(s, p, q) ? 1 << q : 0;
            }
            return set;
        }

        int bench(int kind, int seats) {
            if (!in(kind, 0, 6) || !in(seats, 1, 8)) {
                return f(BEYOND);
            }
            if (s.benches.size() == 5) {
                return f(FULL);
            }
            s.benches.add(new MBench(kind, seats));
            return s.benches.size() - 1;
        }

        /** Left of a seat, in a row in which it is put so that all that is looked at is ahead. */
        Integer left(MBench b, int seat) {
            int n = b.who.length;
            switch (b.kind) {
                case 1:
                    if (seat >= 1 && b.who[seat - 1] == null) {
                        return seat >= 2 ? b.who[seat - 2] : null;
                    }
                    return seat >= 1 ? b.who[seat - 1] : null;
                case 2:
                    return n == 1 ? null : b.who[(seat + n - 1) % n];
                case 4:
                    Integer nearest = null;
                    for (int i = 0; i < seat; i++) {
                        nearest = b.who[i] != null ? b.who[i] : nearest;
                    }
                    return nearest;
                case 5:
                    if (n == 1) {
                        return null;
                    }
                    Integer next = b.who[(seat + n - 1) % n];
                    if (next == null && n > 2) {
                        next = b.who[(seat + n - 2) % n];
                    }
                    return next;
                default:
                    return seat >= 1 ? b.who[seat - 1] : null;
            }
        }

        MBench mirrored(MBench b) {
            MBench m = new MBench(b);
            Collections.reverse(Arrays.asList(m.who));
            return m;
        }

        Integer right(MBench b, int seat) {
            return left(mirrored(b), b.who.length - 1 - seat);
        }

        int firstWrong(State st, MBench b) {
            for (int seat = 0; seat < b.who.length; seat++) {
                Integer left = left(b, seat);
                Integer right = b.who[seat] == null || left == null ? null : right(b, seat);
                if (b.who[seat] != null && left != null && right != null && !left.equals(right)
                        && count(st, left, right)) {
                    return seat;
                }
            }
            return -1;
        }

        int lists(State st, MBench b) {
            int sum = 0;
            for (int seat = 0; seat < b.who.length; seat++) {
                sum += b.who[seat] == null ? 0 : st.weight[b.who[seat]] * (2 * seat - (b.who.length - 1));
            }
            return sum;
        }

        boolean holds(State st, MBench b) {
            int lists = Math.abs(lists(st, b));
            if (b.kind == 3 && lists > st.held || b.kind == 6 && lists > 2 * st.held) {
                return false;
            }
            return firstWrong(st, b) < 0;
        }

        int benchOf(int b, int what) {
            if (!isBench(b) || !in(what, 0, 4)) {
                return f(BEYOND);
            }
            MBench bench = s.benches.get(b);
            int sit = 0;
            for (Integer who : bench.who) {
                sit += who == null ? 0 : 1;
            }
            return new int[] {bench.kind, bench.who.length, sit, lists(s, bench), holds(s, bench) ? 1 : 0}[what];
        }

        int turn(int b, int kind) {
            if (!isBench(b) || !in(kind, 0, 6)) {
                return f(BEYOND);
            }
            int was = s.benches.get(b).kind;
            s.benches.get(b).kind = kind;
            return was;
        }

        int told(Integer who) {
            return who == null ? -1 : who;
        }

        int seat(int b, int seat) {
            return isSeat(b, seat) ? told(s.benches.get(b).who[seat]) : f(BEYOND);
        }

        int beside(int b, int seat, int side) {
            if (!isSeat(b, seat) || !in(side, 0, 1)) {
                return f(BEYOND);
            }
            MBench bench = s.benches.get(b);
            return told(side == 0 ? left(bench, seat) : right(bench, seat));
        }

        int wrong(int b) {
            if (!isBench(b)) {
                return f(BEYOND);
            }
            int first = firstWrong(s, s.benches.get(b));
            return first < 0 ? f(NONE) : first;
        }

        int place(State st, int p) {
            for (int b = 0; b < st.benches.size(); b++) {
                int at = Arrays.asList(st.benches.get(b).who).indexOf(p);
                if (at >= 0) {
                    return 10 * b + at;
                }
            }
            return -1;
        }

        boolean up(State st, int p) {
            int at = place(st, p);
            if (at >= 0) {
                st.benches.get(at / 10).who[at % 10] = null;
            }
            return at >= 0;
        }

        int sit(int p, int b, int seat) {
            if (!in(p, 0, 7) || !isSeat(b, seat)) {
                return f(BEYOND);
            }
            MBench bench = s.benches.get(b);
            if (bench.who[seat] != null && bench.who[seat] != p) {
                return f(STATE);
            }
            up(s, p);
            bench.who[seat] = p;
            return holds(s, bench) ? 1 : 0;
        }

        int rise(int p) {
            return !in(p, 0, 7) ? f(BEYOND) : up(s, p) ? 1 : 0;
        }

        int where(int p) {
            return !in(p, 0, 7) ? f(BEYOND) : place(s, p) < 0 ? f(NONE) : place(s, p);
        }

        int mayIn(State st, int p, int b) {
            int set = 0;
            for (int seat = 0; seat < st.benches.get(b).who.length; seat++) {
                State then = new State(st);
                up(then, p);
                MBench bench = then.benches.get(b);
                if (bench.who[seat] == null) {
                    bench.who[seat] = p;
                    set += holds(then, bench) ? 1 << seat : 0;
                }
            }
            return set;
        }

        int may(int p, int b) {
            return !in(p, 0, 7) || !isBench(b) ? f(BEYOND) : mayIn(s, p, b);
        }

        int kind(int p, int b) {
            if (!in(p, 0, 7) || !isBench(b)) {
                return f(BEYOND);
            }
            int may = mayIn(s, p, b);
            int best = -1;
            int bestSeat = -1;
            for (int seat = 0; seat < 8; seat++) {
                if ((may & 1 << seat) != 0) {
                    State then = new State(s);
                    up(then, p);
                    then.benches.get(b).who[seat] = p;
                    int others = 0;
                    for (int q = 0; q < 8; q++) {
                        others += place(then, q) < 0 && mayIn(then, q, b) != 0 ? 1 : 0;
                    }
                    if (others > best) {
                        best = others;
                        bestSeat = seat;
                    }
                }
            }
            return bestSeat < 0 ? f(NONE) : bestSeat;
        }

        int come(int b, int n) {
            if (!isBench(b) || !in(n, 1, 20)) {
                return f(BEYOND);
            }
            int did = 0;
            for (int i = 0; i < n; i++) {
                s.z = s.z * 1103515245 + 12345;
                int p = (s.z >>> 8) % 8;
                if (place(s, p) < 0) {
                    int may = mayIn(s, p, b);
                    for (int seat = 0; seat < 8; seat++) {
                        if ((may & 1 << seat) != 0) {
                            s.benches.get(b).who[seat] = p;
                            did++;
                            break;
                        }
                    }
                }
            }
            return did;
        }

        int size(int set) {
            return Integer.toBinaryString(set).replace("0", "").length();
        }

        /** All of them: each row of seats from the first on, nobody first, looked at when full. */
        List<Integer[]> all(State st, int kind, int seats, int set) {
            List<Integer[]> found = new ArrayList<>();
            if (size(set) <= seats) {
                go(st, new MBench(kind, seats), 0, set, found);
            }
            return found;
        }

        void go(State st, MBench row, int seat, int rest, List<Integer[]> found) {
            if (seat == row.who.length) {
                if (rest == 0 && holds(st, row)) {
                    found.add(row.who.clone());
                }
                return;
            }
            if (size(rest) > row.who.length - seat) {
                return;
            }
            row.who[seat] = null;
            go(st, row, seat + 1, rest, found);
            for (int p = 0; p < 8; p++) {
                if ((rest & 1 << p) != 0) {
                    row.who[seat] = p;
                    go(st, row, seat + 1, rest - (1 << p), found);
                    row.who[seat] = null;
                }
            }
        }

        List<Integer[]> all(State st, int b, int set) {
            MBench bench = st.benches.get(b);
            return all(st, bench.kind, bench.who.length, set);
        }

        boolean tooMany(int b, int set) {
            return size(set) > 6 || size(set) > s.benches.get(b).who.length;
        }

        int seatings(int b, int set) {
            if (!isBench(b) || !in(set, 0, 255)) {
                return f(BEYOND);
            }
            return tooMany(b, set) ? f(SIZE) : all(s, b, set).size();
        }

        int lay(int b, int set, int i) {
            if (!isBench(b) || !in(set, 0, 255) || i < 0) {
                return f(BEYOND);
            }
            if (tooMany(b, set)) {
                return f(SIZE);
            }
            List<Integer[]> all = all(s, b, set);
            if (i >= all.size()) {
                return f(NONE);
            }
            Arrays.fill(s.benches.get(b).who, null);
            for (int p = 0; p < 8; p++) {
                if ((set & 1 << p) != 0) {
                    up(s, p);
                }
            }
            s.benches.get(b).who = all.get(i);
            return 1;
        }

        int most(int b, int set) {
            if (!isBench(b) || !in(set, 0, 255)) {
                return f(BEYOND);
            }
            if (size(set) > 6) {
                return f(SIZE);
            }
            int best = 0;
            for (int subset = 1; subset < 256; subset++) {
                if ((subset | set) == set && size(subset) > size(best) && !all(s, b, subset).isEmpty()) {
                    best = subset;
                }
            }
            return best;
        }

        int frees(int b, int set) {
            if (!isBench(b) || !in(set, 0, 255)) {
                return f(BEYOND);
            }
            if (tooMany(b, set)) {
                return f(SIZE);
            }
            int best = -1;
            int answer = 0;
            for (int pair = 0; pair < 78; pair++) {
                int one = pair / 10;
                int other = pair % 10;
                if (one < other && other < 8 && (set & 1 << one) != 0 && (set & 1 << other) != 0
                        && count(s, one, other)) {
                    State then = new State(s);
                    then.bond[one][other] = 0;
                    then.bond[other][one] = 0;
                    int many = all(then, b, set).size();
                    if (many > best) {
                        best = many;
                        answer = pair;
                    }
                }
            }
            return best < 0 ? f(NONE) : answer;
        }

        int often(int b, int set, int p, int seat) {
            if (!isSeat(b, seat) || !in(set, 0, 255) || !in(p, 0, 7) || (set & 1 << p) == 0) {
                return f(BEYOND);
            }
            if (tooMany(b, set)) {
                return f(SIZE);
            }
            int many = 0;
            for (Integer[] row : all(s, b, set)) {
                many += row[seat] != null && row[seat] == p ? 1 : 0;
            }
            return many;
        }

        int needs(int b, int set) {
            if (!isBench(b) || !in(set, 0, 255)) {
                return f(BEYOND);
            }
            if (size(set) > 6) {
                return f(SIZE);
            }
            for (int seats = 1; seats <= 8; seats++) {
                if (!all(s, s.benches.get(b).kind, seats, set).isEmpty()) {
                    return seats;
                }
            }
            return f(NONE);
        }

        int gainIn(MBench b, int p) {
            int at = Arrays.asList(b.who).indexOf(p);
            int gain = 0;
            for (int seat = 0; seat < b.who.length; seat++) {
                gain += b.who[seat] != null && Math.abs(seat - at) == 1 && s.bond[p][b.who[seat]] > 0 ? 1 : 0;
            }
            return gain;
        }

        int gain(int p) {
            if (!in(p, 0, 7)) {
                return f(BEYOND);
            }
            return place(s, p) < 0 ? f(STATE) : gainIn(s.benches.get(place(s, p) / 10), p);
        }

        int worth(int b) {
            if (!isBench(b)) {
                return f(BEYOND);
            }
            int sum = 0;
            for (Integer p : s.benches.get(b).who) {
                sum += p == null ? 0 : gainIn(s.benches.get(b), p);
            }
            return sum;
        }

        int exchange(int b) {
            if (!isBench(b)) {
                return f(BEYOND);
            }
            MBench bench = s.benches.get(b);
            Set<Integer> there = new TreeSet<>();
            for (Integer p : bench.who) {
                if (p != null) {
                    there.add(p);
                }
            }
            for (int one : there) {
                for (int other : there) {
                    if (one < other) {
                        MBench then = new MBench(bench);
                        List<Integer> row = Arrays.asList(then.who);
                        Collections.swap(row, row.indexOf(one), row.indexOf(other));
                        if (gainIn(then, one) > gainIn(bench, one) && gainIn(then, other) > gainIn(bench, other)
                                && holds(s, then)) {
                            bench.who = then.who;
                            return 10 * one + other;
                        }
                    }
                }
            }
            return f(NONE);
        }

        int shows(int b) {
            if (!isBench(b)) {
                return f(BEYOND);
            }
            MBench bench = s.benches.get(b);
            if (!holds(s, bench)) {
                return f(STATE);
            }
            Set<Set<Integer>> pairs = new HashSet<>();
            for (int seat = 0; seat < bench.who.length; seat++) {
                Integer left = left(bench, seat);
                Integer right = right(bench, seat);
                if (bench.who[seat] != null && left != null && right != null && !left.equals(right)) {
                    pairs.add(Set.of(left, right));
                }
            }
            return pairs.size();
        }

        int course(int b, int n) {
            if (!isBench(b) || !in(n, 1, 7)) {
                return f(BEYOND);
            }
            Collections.rotate(Arrays.asList(s.benches.get(b).who), n);
            return holds(s, s.benches.get(b)) ? 1 : 0;
        }

        int turns(int b) {
            if (!isBench(b)) {
                return f(BEYOND);
            }
            MBench then = new MBench(s.benches.get(b));
            int many = 0;
            for (int i = 0; i < then.who.length; i++) {
                many += holds(s, then) ? 1 : 0;
                Collections.rotate(Arrays.asList(then.who), 1);
            }
            return many;
        }

        int seed(int v) {
            int was = s.z;
            s.z = v;
            return was;
        }

        int feed(int bytes, int n) {
            if (!in(n, 1, 4)) {
                return f(BEYOND);
            }
            if (tape.length() + n > 120) {
                return f(FULL);
            }
            for (int i = n - 1; i >= 0; i--) {
                tape += (char) (bytes >> 8 * i & 0xFF);
            }
            return tape.length();
        }

        int wipe() {
            int had = tape.length();
            tape = "";
            return had;
        }

        int text() {
            String text = tape;
            tape = "";
            List<Token> tokens = new ArrayList<>();
            Matcher matcher = Pattern.compile("[a-z]+|[0-9]+|[^ ]", Pattern.DOTALL).matcher(text);
            while (matcher.find()) {
                tokens.add(new Token(matcher.group(), matcher.start()));
            }
            tokens.add(new Token("", text.length()));
            State then = new State(s);
            try {
                int items = 0;
                boolean more = true;
                while (more) {
                    item(then, tokens);
                    items++;
                    Token token = tokens.remove(0);
                    if (!token.text.isEmpty() && !token.text.equals(";")) {
                        throw new Fault(token.place);
                    }
                    more = !token.text.isEmpty();
                }
                s = then;
                return items;
            } catch (Fault fault) {
                return -1 - fault.place;
            }
        }

        int number(List<Token> tokens, Set<Integer> may) throws Fault {
            Token token = tokens.get(0);
            if (!token.text.matches("[0-9]+") || new BigInteger(token.text).bitLength() > 20
                    || !may.contains(new BigInteger(token.text).intValue())) {
                throw new Fault(token.place);
            }
            tokens.remove(0);
            return Integer.parseInt(token.text);
        }

        Set<Integer> range(int low, int high) {
            Set<Integer> range = new TreeSet<>();
            for (int v = low; v <= high; v++) {
                range.add(v);
            }
            return range;
        }

        void item(State then, List<Token> tokens) throws Fault {
            Token word = tokens.remove(0);
            int kind = Arrays.asList("bench", "pew", "ring", "boat", "bed", "table", "raft").indexOf(word.text);
            if (word.text.equals("friends") || word.text.equals("secret")) {
                int one = number(tokens, range(0, 7));
                Set<Integer> others = range(0, 7);
                others.remove(one);
                int other = number(tokens, others);
                int how = word.text.equals("friends") ? 1 : 2;
                then.bond[one][other] = how;
                then.bond[other][one] = how;
            } else if (word.text.equals("weight")) {
                int p = number(tokens, range(0, 7));
                then.weight[p] = number(tokens, range(1, 99));
            } else if (word.text.equals("held")) {
                then.held = number(tokens, range(0, 999));
            } else if (kind >= 0 && then.benches.size() < 5) {
                Token seats = tokens.remove(0);
                if (!seats.text.equals("seats")) {
                    throw new Fault(seats.place);
                }
                MBench bench = new MBench(kind, number(tokens, range(1, 8)));
                then.benches.add(bench);
                if (tokens.get(0).text.equals("sits")) {
                    tokens.remove(0);
                    sitters(then, bench, tokens);
                }
            } else {
                throw new Fault(word.place);
            }
        }

        void sitters(State then, MBench bench, List<Token> tokens) throws Fault {
            int seat = 0;
            do {
                Set<Integer> may = new TreeSet<>();
                if (seat < bench.who.length) {
                    may.add(8);
                    for (int p = 0; p < 8; p++) {
                        if (place(then, p) < 0) {
                            may.add(p);
                        }
                    }
                }
                int who = number(tokens, may);
                bench.who[seat] = who == 8 ? null : (Integer) who;
                seat++;
            } while (tokens.get(0).text.matches("[0-9]+"));
        }

        int hold(int spot, int b) {
            if (!in(spot, 0, 9) || b != -1 && !isBench(b)) {
                return f(BEYOND);
            }
            s.spots[spot] = b == -1 ? null : (Integer) b;
            return 1;
        }

        int as(int spot, int kind) {
            if (!in(spot, 0, 9) || !in(kind, 0, 6)) {
                return f(BEYOND);
            }
            if (s.spots[spot] == null) {
                return f(MISSING);
            }
            String[] lines = {"0", "10", "20", "30", "410", "520", "630"};
            int is = s.benches.get(s.spots[spot]).kind;
            return lines[is].contains("" + kind) ? s.spots[spot] : f(KIND);
        }

        int sheet(int i, int b, int n) {
            if (!in(i, 0, 3) || !Set.of(0, 8, 16, 32).contains(b)) {
                return f(BEYOND);
            }
            if (n < 0) {
                return f(SIZE);
            }
            if (n > 40) {
                return f(BEYOND);
            }
            bits[i] = b;
            sheets[i] = b == 0 ? null : new int[n];
            return b == 0 ? 0 : n;
        }

        int write(int i, int at, int v) {
            if (!in(i, 0, 3)) {
                return f(BEYOND);
            }
            if (sheets[i] == null) {
                return f(MISSING);
            }
            if (!in(at, 0, sheets[i].length - 1)) {
                return f(BEYOND);
            }
            sheets[i][at] = v << 32 - bits[i] >> 32 - bits[i];
            return 1;
        }

        int copy(int i, int from, int t, int to, int n) {
            if (!in(i, 0, 3) || !in(t, 0, 3)) {
                return f(BEYOND);
            }
            if (sheets[i] == null || sheets[t] == null) {
                return f(MISSING);
            }
            if (bits[i] != bits[t]) {
                return f(KIND);
            }
            if (from < 0 || to < 0 || n < 0 || (long) from + n > sheets[i].length
                    || (long) to + n > sheets[t].length) {
                return f(BEYOND);
            }
            int[] were = sheets[i].clone();
            for (int k = 0; k < n; k++) {
                sheets[t][to + k] = were[from + k];
            }
            return n;
        }

        int load(int i, int b) {
            if (!in(i, 0, 3)) {
                return f(BEYOND);
            }
            if (sheets[i] == null) {
                return f(MISSING);
            }
            if (!isBench(b)) {
                return f(BEYOND);
            }
            MBench bench = s.benches.get(b);
            int came = 0;
            for (int v : sheets[i]) {
                if (!in(v, 0, 8) || came == bench.who.length) {
                    break;
                }
                if (v == 8) {
                    bench.who[came] = null;
                } else if (bench.who[came] != null && bench.who[came] != v) {
                    break;
                } else {
                    up(s, v);
                    bench.who[came] = v;
                }
                came++;
            }
            return came;
        }

        int judge(int i, int b) {
            if (!in(i, 0, 3)) {
                return f(BEYOND);
            }
            if (sheets[i] == null) {
                return f(MISSING);
            }
            if (!isBench(b)) {
                return f(BEYOND);
            }
            MBench then = new MBench(s.benches.get(b));
            Set<Integer> told = new HashSet<>();
            for (int k = 0; k < sheets[i].length; k++) {
                if (sheets[i][k] != 8 && (!in(sheets[i][k], 0, 7) || !told.add(sheets[i][k]))) {
                    return 1 + k;
                }
            }
            if (sheets[i].length != then.who.length) {
                return 41;
            }
            for (int k = 0; k < then.who.length; k++) {
                then.who[k] = sheets[i][k] == 8 ? null : (Integer) sheets[i][k];
            }
            return holds(s, then) ? 0 : 42;
        }

        int image() {
            kept = new State(s);
            return 1;
        }

        int undo() {
            if (kept == null) {
                return f(NONE);
            }
            s = new State(kept);
            return s.benches.size();
        }

        int tear() {
            int was = kept == null ? 0 : 1;
            kept = null;
            return was;
        }

        int count(int what) {
            if (!in(what, 0, 7)) {
                return f(BEYOND);
            }
            int sit = 0;
            int pairs = 0;
            int secret = 0;
            for (int p = 0; p < 8; p++) {
                sit += place(s, p) >= 0 ? 1 : 0;
                for (int q = 0; q < p; q++) {
                    pairs += count(s, p, q) ? 1 : 0;
                    secret += s.bond[p][q] == 2 ? 1 : 0;
                }
            }
            int hold = 0;
            for (MBench b : s.benches) {
                hold += holds(s, b) ? 1 : 0;
            }
            return new int[] {s.benches.size(), sit, pairs, secret, s.held, tape.length(), s.z, hold}[what];
        }

        int status(int which) {
            if (!in(which, -1, 6)) {
                return f(BEYOND);
            }
            int many = 0;
            for (int finding : findings) {
                many += which == -1 || finding == BEYOND - which ? 1 : 0;
            }
            return many;
        }
    }
}
