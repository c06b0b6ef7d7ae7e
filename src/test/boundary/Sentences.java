import java.io.IOException;
import java.util.List;
import java.util.TreeSet;
import java.util.Set;

/**
 * Tests of one sentence of the document each: says() begins one and names its promise; the rows that
 * follow belong to it.
 */
final class Sentences {
    static final int BEYOND = -1000001;
    static final int FULL = -1000002;
    static final int KIND = -1000003;
    static final int NONE = -1000004;
    static final int STATE = -1000005;
    static final int MISSING = -1000006;
    static final int SIZE = -1000007;

    /** A call. */
    interface Act {
        int on(NobodyBetween x);
    }

    /** A call with one of its numbers left open. */
    interface ActWith {
        int on(NobodyBetween x, int v);
    }

    /** Calls that lead up to the one that is tested. */
    interface Story {
        void on(NobodyBetween x);
    }

    private final Document document;
    private final Set<Integer> promises = new TreeSet<>();
    private int promise = 0;
    private String sentence = "";
    private int sentences = 0;
    private int rows = 0;
    private int rowsOfSentence = 1;
    private int wrong = 0;

    Sentences() throws IOException {
        document = new Document();
    }

    void says(int ofPromise, String words) {
        checkRows();
        promise = ofPromise;
        sentence = words;
        rowsOfSentence = 0;
        sentences++;
        promises.add(ofPromise);
        if (!document.quote(ofPromise, words)) {
            fail("the document doesn't say so");
        }
    }

    private void checkRows() {
        if (rowsOfSentence == 0) {
            fail("nothing is tested");
        }
    }

    private void fail(String what) {
        wrong++;
        System.out.println("promise " + promise + ", \"" + sentence + "\": " + what);
    }

    void due(String what, int got, int want) {
        rows++;
        rowsOfSentence++;
        if (got != want) {
            fail(what + " answered " + got + ", due is " + want);
        }
    }

    void dueRow(String what, NobodyBetween x, int bench, String want) {
        rows++;
        rowsOfSentence++;
        String got = Rooms.row(x, bench);
        if (!got.equals(want)) {
            fail(what + ": bench " + bench + " is " + got + ", due is " + want);
        }
    }

    /** The call answers no finding. */
    void taken(Story ahead, String what, Act act) {
        NobodyBetween x = Rooms.after(ahead);
        int before = x.status(-1);
        act.on(x);
        due(what + " is taken", x.status(-1), before);
    }

    /** The call answers the finding and changes nothing else: another object without it goes on alike. */
    void refused(Story ahead, String what, Act act, int finding) {
        NobodyBetween x = Rooms.after(ahead);
        NobodyBetween twin = Rooms.after(ahead);
        due(what, act.on(x), finding);
        for (int which = -1; which < 7; which++) {
            int more = which == -1 || which == BEYOND - finding ? 1 : 0;
            due("status(" + which + ") after " + what, x.status(which), twin.status(which) + more);
        }
        alike(what, x, twin);
    }

    /** The call answers so and changes nothing at all, not even status(). */
    void asked(Story ahead, String what, Act act, int want) {
        NobodyBetween x = Rooms.after(ahead);
        NobodyBetween twin = Rooms.after(ahead);
        due(what, act.on(x), want);
        due("findings by " + what, x.status(-1), twin.status(-1));
        alike(what, x, twin);
    }

    /** Both objects go on alike; they are of no use then. */
    void alike(String what, NobodyBetween x, NobodyBetween twin) {
        List<Integer> got = Probe.all(x);
        List<Integer> want = Probe.all(twin);
        int same = 0;
        while (same < Math.min(got.size(), want.size()) && got.get(same).equals(want.get(same))) {
            same++;
        }
        due(what + " changes nothing: of " + want.size() + " answers alike", same, Math.max(got.size(), want.size()));
    }

    /** All from the least to the greatest are taken; what is below and above is BEYOND. */
    void range(Story ahead, String what, int least, int greatest, ActWith act) {
        for (int v = least; v <= greatest; v += step(v, least, greatest)) {
            int value = v;
            taken(ahead, what + " " + v, x -> act.on(x, value));
        }
        beyond(ahead, what, act, least - 1, greatest + 1, Integer.MIN_VALUE, Integer.MAX_VALUE,
                least - 32, greatest + 32, least - 256, greatest + 256, least - 65536, greatest + 65536);
    }

    /** Long ranges are looked at near their ends. */
    private static int step(int v, int least, int greatest) {
        return v == least + 1 && greatest - least > 20 ? greatest - least - 2 : 1;
    }

    void beyond(Story ahead, String what, ActWith act, int... values) {
        for (int v : values) {
            refused(ahead, what + " " + v, x -> act.on(x, v), BEYOND);
        }
    }

    int report() {
        checkRows();
        for (String piece : document.unquoted()) {
            wrong++;
            System.out.println("no test quotes of " + piece);
        }
        if (promises.size() != document.promises()) {
            wrong++;
            System.out.println("tests name the promises " + promises + " alone");
        }
        System.out.println(sentences + " sentences, " + rows + " rows, " + wrong + " not as due");
        return wrong;
    }
}
