import java.util.ArrayList;
import java.util.List;

/** Reads all that can be seen of an object, which is of no use afterwards. Two that are alike answer alike. */
final class Probe {
    private static final int[] BITS = {8, 16, 32};

    private Probe() {
    }

    /** Some 320 calls. What status() tells is left out. */
    static List<Integer> all(NobodyBetween x) {
        List<Integer> told = new ArrayList<>();
        room(x, told);
        told.add(x.text());
        told.add(x.count(0));
        told.add(x.held(1));
        told.add(x.weight(6, 10));
        sheets(x, told);
        told.add(x.undo());
        room(x, told);
        told.add(x.tear());
        return told;
    }

    private static void room(NobodyBetween x, List<Integer> told) {
        for (int what = 0; what < 8; what++) {
            told.add(x.count(what));
        }
        for (int one = 0; one < 8; one++) {
            told.add(x.where(one));
            for (int other = one + 1; other < 8; other++) {
                told.add(x.are(one, other));
            }
        }
        for (int bench = 0; bench < x.count(0); bench++) {
            told.add(x.benchOf(bench, 0));
            told.add(x.benchOf(bench, 1));
            told.add(x.benchOf(bench, 3));
        }
        for (int spot = 0; spot < 10; spot++) {
            told.add(x.as(spot, 0));
        }
        for (int person = 0; person < 8; person++) {
            told.add(x.weight(person, 10));
        }
        told.add(x.over(false));
    }

    /** Sheet 3 is looked at alone for whether it is there: it is needed to read the others. */
    private static void sheets(NobodyBetween x, List<Integer> told) {
        x.bench(0, 1);
        for (int person = 0; person < 8; person++) {
            x.rise(person);
        }
        told.add(x.write(3, 0, 0));
        for (int s = 0; s < 3; s++) {
            int as = -1;
            for (int bits : BITS) {
                x.sheet(3, bits, 1);
                int copied = x.copy(s, 0, 3, 0, 0);
                told.add(copied);
                as = copied == 0 ? bits : as;
            }
            if (as > 0) {
                numbers(x, s, as, told);
            }
        }
    }

    private static void numbers(NobodyBetween x, int s, int bits, List<Integer> told) {
        x.sheet(3, bits, 1);
        for (int i = 0; i <= 40 && x.copy(s, i, 3, 0, 1) == 1; i++) {
            told.add(x.load(3, 0));
            int who = x.seat(0, 0);
            told.add(who);
            x.rise(who);
        }
    }
}
