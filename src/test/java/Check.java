import java.util.Arrays;
import java.util.NoSuchElementException;
import java.util.function.ToLongFunction;

/** Counts answers that are not as due. */
final class Check {
    interface Call { long answer(); }

    private int wrong = 0;
    private int asked = 0;
    private String about = "";
    private final boolean[] quoted = new boolean[Doc.PROMISES + 1];

    void about(String promise) {
        about = promise;
    }

    /** What follows tests these words of the document; 0: of its Terms. */
    void words(int promise, String said) {
        about(promise + ": " + said);
        yes(Doc.says(promise, said));
        quoted[promise] = true;
    }

    /** Each of these promises had words that were tested. */
    void promisesQuoted(int from, int to) {
        for (int promise = from; promise <= to; promise++) {
            about("promise " + promise + " has a test");
            yes(quoted[promise]);
        }
    }

    void due(long want, long got) {
        asked++;
        if (got != want) {
            wrong++;
            System.out.println(about + ": answered " + got + ", due is " + want + " (" + place() + ")");
        }
    }

    void yes(boolean got) {
        due(1, got ? 1 : 0);
    }

    void no(boolean got) {
        due(0, got ? 1 : 0);
    }

    void none(Call call) {
        long thrown = 0;
        try {
            call.answer();
        } catch (NoSuchElementException e) {
            thrown = 1;
        }
        due(1, thrown);
    }

    /** The ROW has just these numbers. */
    void row(PanesOfTheDead x, long... want) {
        long[] got = new long[x.count(10)];
        for (int i = 0; i < got.length; i++) got[i] = x.row(i);
        asked++;
        if (!Arrays.equals(got, want)) {
            wrong++;
            System.out.println(about + ": the ROW is " + Arrays.toString(got) + ", due is " + Arrays.toString(want)
                + " (" + place() + ")");
        }
        none(() -> x.row(want.length));
        none(() -> x.row(-1));
    }

    /** A call answers so, and changes nothing: its object goes on as its twin does. */
    void refused(long want, ToLongFunction<PanesOfTheDead> call) {
        Twins twins = new Twins();
        due(want, call.applyAsLong(twins.called));
        alike(twins);
    }

    /** A call that reads this text answers so, and changes nothing but that THE TEXT is empty. */
    void refusedText(long want, String s, ToLongFunction<PanesOfTheDead> call) {
        Twins twins = new Twins();
        due(want, call.applyAsLong(text(twins.called, s)));
        twins.left.end(0);
        alike(twins);
    }

    void alike(Twins twins) {
        String difference = twins.difference();
        if (!difference.isEmpty()) System.out.println(difference);
        yes(difference.isEmpty());
    }

    private static String place() {
        for (StackTraceElement e : Thread.currentThread().getStackTrace()) {
            if (e.getClassName().endsWith("Test")) return e.getFileName() + ":" + e.getLineNumber();
        }
        return "?";
    }

    void close() {
        System.out.println(asked + " asked, " + wrong + " not as due");
        if (wrong != 0) System.exit(1);
    }

    /** THE TEXT becomes this one. */
    static PanesOfTheDead text(PanesOfTheDead x, String s) {
        x.end(0);
        for (int i = 0; i < s.length(); i += 4) {
            int v = 0;
            for (int k = i; k < i + 4; k++) v = v << 8 | (k < s.length() ? s.charAt(k) : 0);
            x.sign(v);
        }
        x.end(s.length());
        return x;
    }

    static PanesOfTheDead town(String square, String things, String panes, String rooms) {
        PanesOfTheDead x = new PanesOfTheDead();
        text(x, square).square();
        text(x, things).things();
        text(x, panes).panes();
        text(x, rooms).rooms();
        return x;
    }
}
