import java.util.ArrayList;
import java.util.List;
import java.util.NoSuchElementException;
import java.util.Random;

/** Long runs of drawn calls: the program must answer each of them as the model does. */
public final class ModelTest {
    private static final int RUNS = 20000;
    private static final int CALLS = 512;
    private static final int DEAREST = 120;
    private static final String[] RULES = {
        "", "1", "0", "t<12", "h=0", "(h=0)*(s<l+1)", "s-l", "t/3-k", "k*k*999*999*999-s", "-(-s)+--l", "n>k",
        "(t/2*2=t)*(s<l+5)", "((((k))))", "1/0", "t-5", "(t>3)*(t<9)+(h=1)", "999*999*999*999/-1", "l/s", "-7/2+3",
        "k-s-l", "100/7/2", "2*3+4*5-26", "(k=1)+(k=3)", "t*t-9*t+18", "h*n-1", "(s>l)*(t<20)", "k<s+l", "5-t/6*3",
    };

    private final Random random;
    private final PanesOfTheDead program = new PanesOfTheDead();
    private final Model model = new Model();
    private final List<String> calls = new ArrayList<>();
    private boolean right = true;

    private ModelTest(long seed) {
        random = new Random(seed);
    }

    public static void main(String[] args) {
        int wrong = 0;
        for (int run = 0; run < RUNS && wrong < 5; run++) {
            ModelTest test = new ModelTest(run);
            test.run();
            if (!test.right) {
                wrong++;
                System.out.println("run " + run + ": " + test.calls);
            }
        }
        System.out.println(wrong == 0 ? "all runs are as the model has them" : wrong + " runs are wrong");
        if (wrong != 0) System.exit(1);
    }

    private interface Call { long answer(); }

    private void same(String call, Call ours, Call due) {
        if (!right) return;
        String got = said(ours);
        String want = said(due);
        calls.add(call + " = " + got);
        if (!got.equals(want)) {
            calls.add("due is " + want);
            right = false;
        }
    }

    private static String said(Call call) {
        try {
            return String.valueOf(call.answer());
        } catch (NoSuchElementException e) {
            return "NoSuchElementException";
        }
    }

    private static long bit(boolean b) { return b ? 1 : 0; }

    private int below(int n) { return random.nextInt(n); }

    /** Mostly a number below n, now and then one beside it or far off. */
    private int near(int n) {
        switch (below(40)) {
            case 0: return -1;
            case 1: return n;
            case 2: return n + 1;
            case 3: return Integer.MIN_VALUE;
            case 4: return Integer.MAX_VALUE;
            default: return n > 0 ? below(n) : 0;
        }
    }

    private char of(String signs) { return signs.charAt(below(signs.length())); }

    private void run() {
        square();
        things();
        panes();
        rooms();
        while (right && calls.size() + DEAREST + asked() < CALLS) {
            call();
            if (below(8) == 0) counts();
        }
        all();
        if (calls.size() > CALLS) throw new IllegalStateException("more calls than an object is used for");
    }

    /** How many calls all() makes. */
    private int asked() {
        return 16 + model.row.size() + 7 * (6 + model.count(2) + model.count(3) + model.count(4));
    }

    private void call() {
        switch (below(10)) {
            case 0: text(); break;
            case 1: case 2: case 3: act(); break;
            case 4: case 5: sight(); break;
            case 6: glass(); break;
            case 7: way(); break;
            case 8: law(); break;
            default: rest(); break;
        }
    }

    private void text() {
        switch (below(16)) {
            case 0: if (below(6) == 0) square(); break;
            case 1: case 2: things(); break;
            case 3: case 4: panes(); break;
            case 5: case 6: rooms(); break;
            case 7: case 8: case 9: case 10: rule(); break;
            case 11: signs(); break;
            default: sheet(); break;
        }
    }

    private void signs() {
        int v = below(3) == 0 ? random.nextInt() : 0x61626364;
        same("sign(" + v + ")", () -> program.sign(v), () -> model.sign(v));
        int n = near(10) + (below(3) == 0 ? 60 : 0);
        same("end(" + n + ")", () -> bit(program.end(n)), () -> bit(model.end(n)));
        if (below(10) == 0) feed("0123456789".repeat(8));
        same("count(11)", () -> program.count(11), () -> model.count(11));
    }

    private void feed(String s) {
        same("end(0)", () -> bit(program.end(0)), () -> bit(model.end(0)));
        for (int i = 0; i < s.length(); i += 4) {
            int v = 0;
            for (int k = i; k < i + 4; k++) v = v << 8 | (k < s.length() ? s.charAt(k) : 0);
            int w = v;
            same("sign(" + w + ")", () -> program.sign(w), () -> model.sign(w));
        }
        same("end(" + s.length() + ") of " + s, () -> bit(program.end(s.length())), () -> bit(model.end(s.length())));
    }

    /** The text as it is, or, now and then, with a sign of it changed, gone, doubled, or with its end cut off. */
    private String spoilt(String s) {
        if (below(5) != 0) return s;
        StringBuilder b = new StringBuilder(s);
        int p = s.isEmpty() ? 0 : below(s.length());
        switch (below(5)) {
            case 0: if (!s.isEmpty()) b.setCharAt(p, of("abh;;0169usr(+-x\u0000\u00ff)")); break;
            case 1: if (!s.isEmpty()) b.deleteCharAt(p); break;
            case 2: b.insert(p, of("abh;;0169usr(+-x)")); break;
            case 3: b.setLength(p); break;
            default: b.append(of(";a0u+)")); break;
        }
        return b.length() > 80 ? b.substring(0, 80) : b.toString();
    }

    private String lines(int most, java.util.function.Supplier<String> line) {
        StringBuilder b = new StringBuilder();
        int n = below(most + 1);
        for (int i = 0; i < n; i++) b.append(i > 0 ? ";" : "").append(line.get());
        return spoilt(b.length() > 80 ? b.substring(0, 80) : b.toString());
    }

    private String digit(int n) { return String.valueOf(below(Math.max(1, below(60) == 0 ? 10 : n))); }

    private String letters(int chance) {
        StringBuilder b = new StringBuilder();
        for (char c = 'a'; c <= 'h'; c++) if (below(chance) == 0) b.append(c);
        return b.toString();
    }

    private void square() {
        feed(spoilt("" + of("123456") + of("123456")));
        same("square()", () -> program.square(), () -> model.square());
    }

    private void things() {
        feed(lines(below(4) == 0 ? 10 : 4, () -> "" + of("abcdefgh") + of("0123456789")
            + digit(model.rowCount) + digit(model.columnCount) + of("urdls")));
        same("things()", () -> program.things(), () -> model.things());
    }

    private void panes() {
        int chance = 1 + below(5);
        feed(lines(below(4) == 0 ? 10 : 4, () -> of("0123456789") + letters(chance)));
        same("panes()", () -> program.panes(), () -> model.panes());
    }

    private void rooms() {
        feed(lines(below(4) == 0 ? 6 : 3, () -> digit(model.rowCount) + digit(model.columnCount) + of("0123456789")));
        same("rooms()", () -> program.rooms(), () -> model.rooms());
    }

    private String anyRule() {
        if (below(2) == 0) return spoilt(RULES[below(RULES.length)]);
        String s = expression(0);
        if (s.length() > 44) s = s.substring(0, 38 + below(7));
        return spoilt(s);
    }

    private String expression(int depth) {
        return below(3) == 0 ? sum(depth) + of("<>=") + sum(depth) : sum(depth);
    }

    private String sum(int depth) {
        String s = product(depth);
        for (int i = below(5) - 2; i > 0; i--) s += of("+-") + product(depth);
        return s;
    }

    private String product(int depth) {
        String s = operand(depth);
        for (int i = below(5) - 2; i > 0; i--) s += of("*/") + operand(depth);
        return s;
    }

    private String operand(int depth) {
        String s = "-".repeat(Math.max(0, below(8) - 5));
        if (depth < 5 && below(4) == 0) return s + "(" + expression(depth + 1) + ")";
        return s + (below(3) == 0 ? "" + below(below(2) == 0 ? 10 : 1100) : "" + of("kslhnt"));
    }

    private void rule() {
        feed(anyRule());
        same("rule()", () -> program.rule(), () -> model.rule());
    }

    private void sheet() {
        int kind = near(4);
        int n = near(9);
        int f = below(2) == 0 ? random.nextInt() : below(14) - 2 + 256 * below(3) + 65536 * below(2);
        int step = below(3) == 0 ? random.nextInt() : below(6) - 3;
        same("sheet(" + kind + "," + n + "," + f + "," + step + ")",
            () -> program.sheet(kind, n, f, step), () -> model.sheet(kind, n, f, step));
    }

    private void act() {
        int p = near(model.panes.size());
        int r = near(model.rooms.size());
        int i = near(model.things.size());
        switch (below(12)) {
            case 0: case 1: case 2:
                same("hang(" + p + "," + r + ")", () -> program.hang(p, r), () -> model.hang(p, r));
                break;
            case 3: same("takes(" + p + ")", () -> program.takes(p), () -> model.takes(p)); break;
            case 4: same("ball(" + p + ")", () -> program.ball(p), () -> model.ball(p)); break;
            case 5:
                int f = near(model.rowCount * model.columnCount);
                int h = near(5);
                same("carry(" + i + "," + f + "," + h + ")", () -> program.carry(i, f, h), () -> model.carry(i, f, h));
                break;
            case 6: case 7:
                int n = below(3) == 0 ? near(61) : below(6);
                same("hours(" + n + ")", () -> program.hours(n), () -> model.hours(n));
                break;
            case 8: day(); break;
            case 9: case 10:
                for (int k = below(5); k >= 0; k--) same("undo()", () -> program.undo(), () -> model.undo());
                break;
            default:
                int k = near(3);
                if (below(2) == 0) same("keep(" + k + ")", () -> bit(program.keep(k)), () -> bit(model.keep(k)));
                else same("again(" + k + ")", () -> bit(program.again(k)), () -> bit(model.again(k)));
        }
    }

    private void day() {
        StringBuilder b = new StringBuilder();
        for (int n = below(below(5) == 0 ? 25 : 6); n > 0; n--) {
            switch (below(6)) {
                case 0: case 1: b.append('h').append(of("0123456789")); break;
                case 2: b.append('p').append(digit(model.panes.size())).append(digit(model.rooms.size())); break;
                case 3: b.append('o').append(digit(model.panes.size())); break;
                case 4: b.append('b').append(digit(model.panes.size())); break;
                default: b.append('c').append(digit(model.things.size())).append(digit(model.rowCount))
                    .append(digit(model.columnCount)).append(of("urdls"));
            }
        }
        feed(spoilt(b.length() > 70 ? b.substring(0, 70) : b.toString()));
        same("day()", () -> program.day(), () -> model.day());
    }

    private void sight() {
        int r = near(model.rooms.size());
        int o = near(model.rooms.size());
        int i = near(model.things.size());
        int n = near(100);
        int bits = near(1 << model.things.size());
        switch (below(6)) {
            case 0: same("ahead(" + r + "," + n + ")", () -> program.ahead(r, n), () -> model.ahead(r, n)); break;
            case 1: same("first(" + r + "," + i + ")", () -> program.first(r, i), () -> model.first(r, i)); break;
            case 2: same("meets(" + r + ")", () -> program.meets(r), () -> model.meets(r)); break;
            case 3: same("doubts(" + r + "," + o + ")", () -> program.doubts(r, o), () -> model.doubts(r, o)); break;
            case 4:
                int few = below(2) == 0 ? bits & random.nextInt() & random.nextInt() : bits;
                same("watch(" + few + ")", () -> program.watch(few), () -> model.watch(few));
                break;
            default: same("hidden()", () -> program.hidden(), () -> model.hidden());
        }
    }

    private void glass() {
        int r = near(model.rooms.size());
        int p = near(model.panes.size());
        int i = near(model.things.size());
        int tenths = near(11);
        int yes = near(1 << model.things.size()) & (below(2) == 0 ? -1 : random.nextInt());
        int no = near(1 << model.things.size()) & random.nextInt() & ~(below(4) == 0 ? 0 : yes);
        switch (below(4)) {
            case 0:
                same("glaze(" + r + "," + yes + "," + no + ")",
                    () -> program.glaze(r, yes, no), () -> model.glaze(r, yes, no));
                break;
            case 1: same("best(" + r + ")", () -> program.best(r), () -> model.best(r)); break;
            case 2: same("adds(" + p + ")", () -> program.adds(p), () -> model.adds(p)); break;
            default:
                same("balls(" + r + "," + i + "," + tenths + ")",
                    () -> program.balls(r, i, tenths), () -> model.balls(r, i, tenths));
        }
    }

    private void way() {
        int from = near(model.rowCount * model.columnCount);
        int to = near(model.rowCount * model.columnCount);
        int kind = near(8);
        int shame = near(10);
        String said = "(" + from + "," + to + "," + kind + "," + shame + ")";
        switch (below(4)) {
            case 0: same("dark" + said, () -> program.dark(kind, shame), () -> model.dark(kind, shame)); break;
            case 1:
                same("slips" + said,
                    () -> program.slips(from, to, kind, shame), () -> model.slips(from, to, kind, shame));
                break;
            default:
                same("steals" + said,
                    () -> program.steals(from, to, kind, shame), () -> model.steals(from, to, kind, shame));
        }
    }

    private void law() {
        int kind = near(below(2) == 0 ? 8 : 2);
        int shame = near(10);
        int is = near(2);
        switch (below(9)) {
            case 0: case 1: case 2:
                same("watched(" + kind + "," + shame + "," + is + ")",
                    () -> program.watched(kind, shame, is), () -> model.watched(kind, shame, is));
                break;
            case 3: same("laws()", () -> program.laws(), () -> model.laws()); break;
            case 4: same("next()", () -> program.next(), () -> model.next()); break;
            case 5: same("fits()", () -> program.fits(), () -> model.fits()); break;
            case 6: if (below(3) == 0) same("forget()", () -> program.forget(), () -> model.forget()); break;
            default:
                int chance = 1 + below(8);
                feed(lines(below(5) == 0 ? 10 : 6, () -> {
                    String s = letters(chance);
                    return s.isEmpty() && below(20) > 0 ? "" + of("abcdefgh") : s;
                }));
                same("claims()", () -> program.claims(), () -> model.claims());
        }
    }

    private void rest() {
        switch (below(4)) {
            case 0: case 1:
                feed(anyRule());
                same("law()", () -> program.law(), () -> model.law());
                break;
            case 2:
                int v = near(10);
                same("rests(" + v + ")", () -> program.rests(v), () -> model.rests(v));
                break;
            default:
                int seed = below(3) == 0 ? random.nextInt() : below(100);
                int n = near(61);
                same("years(" + seed + "," + n + ")", () -> program.years(seed, n), () -> model.years(seed, n));
        }
    }

    private void counts() {
        for (int k = -1; k <= 12; k++) {
            int what = k;
            same("count(" + k + ")", () -> program.count(what), () -> model.count(what));
        }
        for (int k = -1; k <= model.row.size(); k++) {
            int i = k;
            same("row(" + k + ")", () -> program.row(i), () -> model.row(i));
        }
    }

    /** All that can be asked without a change. */
    private void all() {
        counts();
        for (int w = -1; w <= 5; w++) {
            int what = w;
            for (int k = -1; k <= model.count(2); k++) {
                int i = k;
                same("thing(" + i + "," + w + ")", () -> program.thing(i, what), () -> model.thing(i, what));
            }
            for (int k = -1; k <= model.count(3); k++) {
                int i = k;
                same("pane(" + i + "," + w + ")", () -> program.pane(i, what), () -> model.pane(i, what));
            }
            for (int k = -1; k <= model.count(4); k++) {
                int i = k;
                same("room(" + i + "," + w + ")", () -> program.room(i, what), () -> model.room(i, what));
            }
        }
    }
}
