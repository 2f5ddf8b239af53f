import java.math.BigInteger;
import java.util.ArrayDeque;
import java.util.ArrayList;
import java.util.Arrays;
import java.util.Deque;
import java.util.List;
import java.util.NoSuchElementException;
import java.util.regex.Matcher;
import java.util.regex.Pattern;

/** The document once more, written from its words alone and without regard to speed, to hold the program against. */
final class Model {
    static final class Thing { int kind, shame, field, heading; }
    static final class Pane { int limit, hides, room = -1; boolean broken; }
    static final class Room { int field, range; }

    /** FIELDS, HEADINGS, ROOMS of PANES, what is BROKEN, HOUR as one list. */
    record Snapshot(List<Integer> all) { }

    int rowCount = 1, columnCount = 1, hour = 0;
    final List<Thing> things = new ArrayList<>();
    final List<Pane> panes = new ArrayList<>();
    final List<Room> rooms = new ArrayList<>();
    String rule = "";
    String text = "";
    final Deque<Snapshot> undos = new ArrayDeque<>();
    final Snapshot[] kept = new Snapshot[3];
    final List<int[]> seenOnce = new ArrayList<>();
    List<Long> row = new ArrayList<>();

    // texts

    int sign(int v) {
        if (text.length() + 4 > 80) return -1;
        for (int i = 3; i >= 0; i--) text += (char) (v >> (8 * i) & 255);
        return text.length();
    }

    boolean end(int n) {
        if (n < 0 || n > text.length()) return false;
        text = text.substring(0, n);
        return true;
    }

    private String takeText() {
        String s = text;
        text = "";
        return s;
    }

    /** The first sign with which no text that the pattern allows goes on; the end, if it is not whole; else -1. */
    private static int fault(String s, String whole, String open, int most) {
        for (int p = 0; p < s.length(); p++) {
            if (p >= most) return most;
            Matcher m = Pattern.compile(open, Pattern.DOTALL).matcher(s.substring(0, p + 1));
            if (!m.matches() && !m.hitEnd()) return p;
        }
        return Pattern.compile(whole, Pattern.DOTALL).matcher(s).matches() ? -1 : s.length();
    }

    private static int faultOfLines(String s, String line, int space, int most) {
        if (space == 0) return 0;
        String whole = line + "(;" + line + "){0," + (space - 1) + "}";
        return fault(s, whole, whole + ";?", most);
    }

    private String rowDigit() { return "[0-" + (rowCount - 1) + "]"; }
    private String columnDigit() { return "[0-" + (columnCount - 1) + "]"; }

    int square() {
        String s = takeText();
        int p = fault(s, "[1-6][1-6]", "[1-6][1-6]", 2);
        if (p >= 0) return -1 - p;
        rowCount = s.charAt(0) - '0';
        columnCount = s.charAt(1) - '0';
        things.clear(); panes.clear(); rooms.clear();
        hour = 0;
        undos.clear();
        Arrays.fill(kept, null);
        seenOnce.clear();
        return rowCount * columnCount;
    }

    private void came() {
        undos.clear();
        Arrays.fill(kept, null);
    }

    int things() {
        String s = takeText();
        if (s.isEmpty()) return 0;
        int p = faultOfLines(s, "[a-h][0-9]" + rowDigit() + columnDigit() + "[urdls]", 8 - things.size(), 47);
        if (p >= 0) return -1 - p;
        for (String line : s.split(";")) {
            Thing t = new Thing();
            t.kind = line.charAt(0) - 'a';
            t.shame = line.charAt(1) - '0';
            t.field = (line.charAt(2) - '0') * columnCount + line.charAt(3) - '0';
            t.heading = "urdls".indexOf(line.charAt(4));
            things.add(t);
        }
        came();
        return s.split(";").length;
    }

    private static int bitsOf(String letters) {
        int bits = 0;
        for (char c : letters.toCharArray()) bits |= 1 << c - 'a';
        return bits;
    }

    int panes() {
        String s = takeText();
        if (s.isEmpty()) return 0;
        int p = faultOfLines(s, "[0-9]a?b?c?d?e?f?g?h?", 8 - panes.size(), 79);
        if (p >= 0) return -1 - p;
        for (String line : s.split(";")) {
            Pane a = new Pane();
            a.limit = line.charAt(0) - '0';
            a.hides = bitsOf(line.substring(1));
            panes.add(a);
        }
        came();
        return s.split(";").length;
    }

    int rooms() {
        String s = takeText();
        if (s.isEmpty()) return 0;
        int p = faultOfLines(s, rowDigit() + columnDigit() + "[0-9]", 4 - rooms.size(), 15);
        if (p >= 0) return -1 - p;
        for (String line : s.split(";")) {
            Room r = new Room();
            r.field = (line.charAt(0) - '0') * columnCount + line.charAt(1) - '0';
            r.range = line.charAt(2) - '0';
            rooms.add(r);
        }
        came();
        return s.split(";").length;
    }

    /** A walk over the signs with two states (a thing is due, or a sign between) and what each ( holds open. */
    static int faultOfRule(String s) {
        if (s.isEmpty()) return -1;
        Deque<Boolean> compared = new ArrayDeque<>();
        compared.push(false);
        boolean thingDue = true;
        int digits = 0;
        for (int p = 0; p < s.length(); p++) {
            if (p >= 40) return 40;
            char c = s.charAt(p);
            if (thingDue) {
                if (c == '-') continue;
                if (c == '(') {
                    if (compared.size() > 4) return p;
                    compared.push(false);
                } else if (Character.isDigit(c) && c < 128) {
                    thingDue = false;
                    digits = 1;
                } else if ("kslhnt".indexOf(c) >= 0) {
                    thingDue = false;
                    digits = 0;
                } else return p;
            } else if (c >= '0' && c <= '9') {
                if (digits == 0 || digits == 3) return p;
                digits++;
            } else if ("+-*/".indexOf(c) >= 0) {
                thingDue = true;
            } else if ("<>=".indexOf(c) >= 0) {
                if (compared.peek()) return p;
                compared.pop();
                compared.push(true);
                thingDue = true;
            } else if (c == ')') {
                if (compared.size() == 1) return p;
                compared.pop();
                digits = 0;
            } else return p;
        }
        return thingDue || compared.size() > 1 ? s.length() : -1;
    }

    int rule() {
        String s = takeText();
        int p = faultOfRule(s);
        if (p >= 0) return -1 - p;
        rule = s;
        return 0;
    }

    /** The last sign outside all ( ) that stands between two things and is one of those. */
    private static int lastOf(String e, String signs) {
        int depth = 0;
        for (int i = e.length() - 1; i > 0; i--) {
            char c = e.charAt(i);
            if (c == ')') depth++;
            if (c == '(') depth--;
            boolean between = "+-*/<>=(".indexOf(e.charAt(i - 1)) < 0;
            if (depth == 0 && between && signs.indexOf(c) >= 0) return i;
        }
        return -1;
    }

    private int value(String e, Pane a, int kind, int shame, int atHour) {
        for (String signs : new String[] {"<>=", "+-", "*/"}) {
            int i = lastOf(e, signs);
            if (i < 0) continue;
            int x = value(e.substring(0, i), a, kind, shame, atHour);
            int y = value(e.substring(i + 1), a, kind, shame, atHour);
            switch (e.charAt(i)) {
                case '<': return x < y ? 1 : 0;
                case '>': return x > y ? 1 : 0;
                case '=': return x == y ? 1 : 0;
                case '+': return x + y;
                case '-': return x - y;
                case '*': return x * y;
                default: return y == 0 ? 0 : (int) ((long) x / y);
            }
        }
        char c = e.charAt(0);
        if (c == '-') return -value(e.substring(1), a, kind, shame, atHour);
        if (c == '(') return value(e.substring(1, e.length() - 1), a, kind, shame, atHour);
        switch (c) {
            case 'k': return kind;
            case 's': return shame;
            case 'l': return a.limit;
            case 'h': return (a.hides & 1 << kind) != 0 ? 1 : 0;
            case 'n': return Integer.bitCount(a.hides);
            case 't': return atHour % 24;
            default: return Integer.parseInt(e);
        }
    }

    private boolean lets(String by, Pane a, int kind, int shame, int atHour) {
        String e = by.isEmpty() ? "(h=0)*(s<l+1)" : by;
        return a.broken || value(e, a, kind, shame, atHour) != 0;
    }

    // what is seen

    private boolean isNear(Room r, int field) {
        return Math.abs(r.field / columnCount - field / columnCount)
            + Math.abs(r.field % columnCount - field % columnCount) <= r.range;
    }

    private boolean sees(int room, Thing t) {
        if (!isNear(rooms.get(room), t.field)) return false;
        for (Pane a : panes) if (a.room == room && lets(rule, a, t.kind, t.shame, hour)) return true;
        return false;
    }

    private int seen(int room) {
        int bits = 0;
        for (int i = 0; i < things.size(); i++) if (sees(room, things.get(i))) bits |= 1 << i;
        return bits;
    }

    private int near(int room) {
        int bits = 0;
        for (int i = 0; i < things.size(); i++) if (isNear(rooms.get(room), things.get(i).field)) bits |= 1 << i;
        return bits;
    }

    private int panesOf(int room) {
        int bits = 0;
        for (int i = 0; i < panes.size(); i++) if (panes.get(i).room == room) bits |= 1 << i;
        return bits;
    }

    private int brokenBits() {
        int bits = 0;
        for (int i = 0; i < panes.size(); i++) if (panes.get(i).broken) bits |= 1 << i;
        return bits;
    }

    private int letThrough(int pane, String by) {
        int bits = 0;
        for (int i = 0; i < things.size(); i++) {
            if (lets(by, panes.get(pane), things.get(i).kind, things.get(i).shame, hour)) bits |= 1 << i;
        }
        return bits;
    }

    int thing(int i, int what) {
        if (i < 0 || i >= things.size() || what < 0 || what > 4) throw new NoSuchElementException();
        Thing t = things.get(i);
        int rooming = 0;
        for (int r = 0; r < rooms.size(); r++) if (sees(r, t)) rooming |= 1 << r;
        return new int[] {t.kind, t.shame, t.field, t.heading, rooming}[what];
    }

    int pane(int i, int what) {
        if (i < 0 || i >= panes.size() || what < 0 || what > 4) throw new NoSuchElementException();
        Pane a = panes.get(i);
        return new int[] {a.limit, a.hides, a.room, a.broken ? 1 : 0, letThrough(i, rule)}[what];
    }

    int room(int i, int what) {
        if (i < 0 || i >= rooms.size() || what < 0 || what > 4) throw new NoSuchElementException();
        return new int[] {rooms.get(i).field, rooms.get(i).range, panesOf(i), seen(i), near(i)}[what];
    }

    int sheet(int kind, int n, int f, int step) {
        if (kind < 0 || kind > 3 || n > 8) return -1;
        if (kind < 3 && n < 0) return -2;
        int sum = 0;
        int entry = f;
        for (int i = 0; i < things.size(); i++, entry += step) {
            int v = kind == 0 ? (byte) entry : kind == 1 ? (short) entry : entry;
            things.get(i).shame = kind == 3 || i >= n || v < 0 ? 0 : v > 9 ? 9 : v;
            sum += things.get(i).shame;
        }
        return kind == 3 ? -3 : sum;
    }

    // acts

    private Snapshot snap() {
        List<Integer> all = new ArrayList<>();
        all.add(hour);
        for (Thing t : things) { all.add(t.field); all.add(t.heading); }
        for (Pane a : panes) { all.add(a.room); all.add(a.broken ? 1 : 0); }
        return new Snapshot(all);
    }

    private void bring(Snapshot s) {
        int i = 0;
        hour = s.all.get(i++);
        for (Thing t : things) { t.field = s.all.get(i++); t.heading = s.all.get(i++); }
        for (Pane a : panes) { a.room = s.all.get(i++); a.broken = s.all.get(i++) == 1; }
    }

    private void undoable(Snapshot s) {
        undos.addLast(s);
        if (undos.size() > 15) undos.removeFirst();
    }

    private int noted(Snapshot s, int answer) {
        if (answer >= 0) undoable(s);
        return answer;
    }

    private void walk() {
        for (Thing t : things) {
            int r = t.field / columnCount + new int[] {-1, 0, 1, 0, 0}[t.heading];
            int c = t.field % columnCount + new int[] {0, 1, 0, -1, 0}[t.heading];
            if (r < 0 || r >= rowCount || c < 0 || c >= columnCount) t.heading = (t.heading + 2) % 4;
            else t.field = r * columnCount + c;
        }
        hour++;
    }

    private int doHang(int p, int r) {
        if (p < 0 || p >= panes.size() || r < 0 || r >= rooms.size()) return -1;
        if (panes.get(p).room == r) return -2;
        panes.get(p).room = r;
        return Integer.bitCount(panesOf(r));
    }

    private int doTake(int p) {
        if (p < 0 || p >= panes.size()) return -1;
        int r = panes.get(p).room;
        panes.get(p).room = -1;
        return r < 0 ? -2 : r;
    }

    private int doBall(int p) {
        if (p < 0 || p >= panes.size()) return -1;
        if (panes.get(p).broken) return -2;
        panes.get(p).broken = true;
        return Integer.bitCount(brokenBits());
    }

    private int doCarry(int i, int field, int heading) {
        if (i < 0 || i >= things.size() || field < 0 || field >= rowCount * columnCount) return -1;
        if (heading < 0 || heading > 4) return -1;
        Thing t = things.get(i);
        int old = t.field;
        t.field = field;
        t.heading = heading;
        return old;
    }

    int hang(int p, int r) { Snapshot s = snap(); return noted(s, doHang(p, r)); }
    int takes(int p) { Snapshot s = snap(); return noted(s, doTake(p)); }
    int ball(int p) { Snapshot s = snap(); return noted(s, doBall(p)); }
    int carry(int i, int f, int h) { Snapshot s = snap(); return noted(s, doCarry(i, f, h)); }

    int hours(int n) {
        if (n < 0 || n > 60) return -1;
        undoable(snap());
        long[] saw = new long[rooms.size()];
        for (int i = 0; i < n; i++) {
            walk();
            for (int r = 0; r < rooms.size(); r++) saw[r] |= seen(r);
        }
        tell(saw);
        return hour;
    }

    int day() {
        String s = takeText();
        String acts = "(h[0-9]|p[0-9][0-9]|o[0-9]|b[0-9]|c[0-9][0-9][0-9][urdls])*";
        int p = fault(s, acts, acts, 60);
        if (p >= 0) return -1 - p;
        Snapshot start = snap();
        Matcher m = Pattern.compile("h.|p..|o.|b.|c....").matcher(s);
        int done = 0;
        boolean refused = false;
        while (!refused && m.find()) {
            if (act(m.group()) < 0) refused = true;
            else done++;
        }
        if (done > 0) undoable(start);
        tell(refused ? 1 : 0, hour);
        return done;
    }

    private int act(String a) {
        int x = a.charAt(1) - '0';
        switch (a.charAt(0)) {
            case 'h':
                for (int i = 0; i < x; i++) walk();
                return hour;
            case 'p': return doHang(x, a.charAt(2) - '0');
            case 'o': return doTake(x);
            case 'b': return doBall(x);
            default:
                int r = a.charAt(2) - '0';
                int c = a.charAt(3) - '0';
                if (r >= rowCount || c >= columnCount) return -1;
                return doCarry(x, r * columnCount + c, "urdls".indexOf(a.charAt(4)));
        }
    }

    int undo() {
        if (undos.isEmpty()) return -1;
        bring(undos.removeLast());
        return undos.size();
    }

    private void tell(long... numbers) {
        row = new ArrayList<>();
        for (long n : numbers) row.add(n);
    }

    // questions

    int ahead(int r, int n) {
        if (r < 0 || r >= rooms.size() || n < 0 || n > 99) return -1;
        Snapshot s = snap();
        for (int i = 0; i < n; i++) walk();
        int bits = seen(r);
        tell(Integer.bitCount(bits), panesOf(r) == 0 ? 0 : near(r));
        bring(s);
        return bits;
    }

    int first(int r, int i) {
        if (r < 0 || r >= rooms.size() || i < 0 || i >= things.size()) return -1;
        Snapshot s = snap();
        int answer = -2;
        for (int n = 0; n <= 99 && answer < 0; n++) {
            if (n > 0) walk();
            if (sees(r, things.get(i))) {
                answer = n;
                tell(things.get(i).field);
            }
        }
        bring(s);
        return answer;
    }

    int meets(int r) {
        if (r < 0 || r >= rooms.size()) return -1;
        Snapshot s = snap();
        int answer = -2;
        for (int n = 0; n <= 99 && answer < 0; n++) {
            if (n > 0) walk();
            for (int f = 0; f < rowCount * columnCount && answer < 0; f++) {
                int bits = 0;
                for (int i = 0; i < things.size(); i++) {
                    if (things.get(i).field == f && sees(r, things.get(i))) bits |= 1 << i;
                }
                if (Integer.bitCount(bits) > 1) {
                    answer = n;
                    tell(f, bits);
                }
            }
        }
        bring(s);
        return answer;
    }

    int doubts(int a, int b) {
        if (a < 0 || a >= rooms.size() || b < 0 || b >= rooms.size() || a == b) return -1;
        int bits = 0;
        int firsts = 0;
        for (int i = 0; i < things.size(); i++) {
            boolean both = (near(a) & near(b) & 1 << i) != 0;
            if (both && sees(a, things.get(i)) != sees(b, things.get(i))) {
                bits |= 1 << i;
                if (sees(a, things.get(i))) firsts |= 1 << i;
            }
        }
        tell(firsts, near(a) & near(b));
        return bits;
    }

    private boolean noThings(int bits) {
        return bits < 0 || bits >= 1 << things.size();
    }

    private int fewest(int[] sets, int yes, int no) {
        for (int many = 0; many <= sets.length; many++) {
            for (int choice = 0; choice < 1 << sets.length; choice++) {
                if (Integer.bitCount(choice) != many) continue;
                int bits = 0;
                for (int i = 0; i < sets.length; i++) if ((choice & 1 << i) != 0) bits |= sets[i];
                if ((bits & yes) == yes && (bits & no) == 0) {
                    tell(choice);
                    return many;
                }
            }
        }
        return -2;
    }

    int watch(int bits) {
        if (noThings(bits)) return -1;
        int[] sets = new int[rooms.size()];
        for (int r = 0; r < sets.length; r++) sets[r] = seen(r);
        return fewest(sets, bits, 0);
    }

    int hidden() {
        int none = 0;
        int all = 0;
        for (int i = 0; i < things.size(); i++) {
            int n = 0;
            for (int r = 0; r < rooms.size(); r++) if (sees(r, things.get(i))) n++;
            if (n == 0) none |= 1 << i;
            if (n == rooms.size()) all |= 1 << i;
        }
        tell(Integer.bitCount(none), all);
        return none;
    }

    int glaze(int r, int yes, int no) {
        if (r < 0 || r >= rooms.size() || noThings(yes) || noThings(no)) return -1;
        int[] sets = new int[panes.size()];
        for (int p = 0; p < sets.length; p++) sets[p] = letThrough(p, rule) & near(r);
        return fewest(sets, yes, no);
    }

    int best(int r) {
        if (r < 0 || r >= rooms.size()) return -1;
        int with = Integer.bitCount(seen(r));
        int best = -2;
        int left = 99;
        for (int p = 0; p < panes.size(); p++) {
            if (panes.get(p).room != r) continue;
            panes.get(p).room = -1;
            int n = Integer.bitCount(seen(r));
            panes.get(p).room = r;
            if (n < left) {
                left = n;
                best = p;
            }
        }
        if (best >= 0) tell(left, with);
        return best;
    }

    int adds(int p) {
        if (p < 0 || p >= panes.size()) return -1;
        int r = panes.get(p).room;
        if (r < 0) return -2;
        Snapshot s = snap();
        int others = panesOf(r) & ~(1 << p);
        int sets = 0;
        int all = 0;
        for (int set = 0; set < 256; set++) {
            if ((set & ~others) != 0) continue;
            all++;
            for (int i = 0; i < panes.size(); i++) panes.get(i).room = (set & 1 << i) != 0 ? r : -1;
            int without = seen(r);
            panes.get(p).room = r;
            if (seen(r) != without) sets++;
        }
        bring(s);
        tell(all);
        return sets;
    }

    private boolean isDark(int field, int kind, int shame, int atHour) {
        for (Pane a : panes) {
            if (a.room >= 0 && isNear(rooms.get(a.room), field) && lets(rule, a, kind, shame, atHour)) return false;
        }
        return true;
    }

    private boolean badWay(int from, int to, int kind, int shame) {
        int n = rowCount * columnCount;
        return from < 0 || from >= n || to < 0 || to >= n || badSort(kind, shame);
    }

    private static boolean badSort(int kind, int shame) {
        return kind < 0 || kind > 7 || shame < 0 || shame > 9;
    }

    private boolean areBeside(int a, int b) {
        return Math.abs(a / columnCount - b / columnCount) + Math.abs(a % columnCount - b % columnCount) == 1;
    }

    private static boolean isLess(List<Long> a, List<Long> b) {
        for (int i = 0; i < a.size(); i++) {
            if (!a.get(i).equals(b.get(i))) return a.get(i) < b.get(i);
        }
        return false;
    }

    int steals(int from, int to, int kind, int shame) {
        if (badWay(from, to, kind, shame)) return -1;
        int n = rowCount * columnCount;
        List<List<Long>> ways = new ArrayList<>();
        for (int f = 0; f < n; f++) ways.add(null);
        if (!isDark(from, kind, shame, hour)) return -2;
        ways.set(from, new ArrayList<>(List.of((long) from)));
        for (int length = 1; length <= n; length++) {
            for (int f = 0; f < n; f++) {
                List<Long> way = ways.get(f);
                if (way == null || way.size() != length) continue;
                for (int g = 0; g < n; g++) {
                    if (!areBeside(f, g) || !isDark(g, kind, shame, hour)) continue;
                    List<Long> on = new ArrayList<>(way);
                    on.add((long) g);
                    List<Long> old = ways.get(g);
                    if (old == null || old.size() == on.size() && isLess(on, old)) ways.set(g, on);
                }
            }
        }
        if (ways.get(to) == null) return -2;
        row = ways.get(to);
        return row.size() - 1;
    }

    int slips(int from, int to, int kind, int shame) {
        if (badWay(from, to, kind, shame)) return -1;
        int n = rowCount * columnCount;
        boolean[] at = new boolean[n];
        at[from] = isDark(from, kind, shame, hour);
        for (int h = 0; h <= 60; h++) {
            if (at[to]) return h;
            boolean[] then = new boolean[n];
            for (int f = 0; f < n; f++) {
                for (int g = 0; g < n; g++) {
                    if (at[f] && (f == g || areBeside(f, g)) && isDark(g, kind, shame, hour + h + 1)) then[g] = true;
                }
            }
            at = then;
        }
        return -2;
    }

    long dark(int kind, int shame) {
        if (badSort(kind, shame)) return -1;
        long bits = 0;
        for (int f = 0; f < rowCount * columnCount; f++) if (isDark(f, kind, shame, hour)) bits |= 1L << f;
        tell(Long.bitCount(bits));
        return bits;
    }

    int watched(int kind, int shame, int is) {
        if (badSort(kind, shame) || is != 0 && is != 1 || seenOnce.size() == 12) return -1;
        seenOnce.add(new int[] {kind, shame, is});
        return seenOnce.size();
    }

    int forget() {
        int n = seenOnce.size();
        seenOnce.clear();
        return n;
    }

    private static int isSeen(int hides, int limit, int kind, int shame) {
        return (hides & 1 << kind) == 0 && shame < limit + 1 ? 1 : 0;
    }

    private boolean lawFits(int hides, int limit) {
        for (int[] w : seenOnce) if (isSeen(hides, limit, w[0], w[1]) != w[2]) return false;
        return true;
    }

    int laws() {
        int many = 0;
        int[] best = null;
        for (int hides = 0; hides < 256; hides++) {
            for (int limit = 0; limit <= 9; limit++) {
                if (!lawFits(hides, limit)) continue;
                many++;
                int[] key = {Integer.bitCount(hides), -limit, hides};
                if (best == null || Arrays.compare(key, best) < 0) best = key;
            }
        }
        if (best == null) tell();
        else tell(best[2], -best[1]);
        return many;
    }

    int next() {
        List<int[]> fitting = new ArrayList<>();
        for (int hides = 0; hides < 256; hides++) {
            for (int limit = 0; limit <= 9; limit++) if (lawFits(hides, limit)) fitting.add(new int[] {hides, limit});
        }
        if (fitting.isEmpty()) return -2;
        int best = -1;
        int left = Integer.MAX_VALUE;
        for (int kind = 0; kind < 8; kind++) {
            for (int shame = 0; shame <= 9; shame++) {
                int yes = 0;
                for (int[] law : fitting) yes += isSeen(law[0], law[1], kind, shame);
                int most = Math.max(yes, fitting.size() - yes);
                if (most < left) {
                    left = most;
                    best = 10 * kind + shame;
                }
            }
        }
        tell(left);
        return best;
    }

    int fits() {
        int bits = 0;
        for (int p = 0; p < panes.size(); p++) if (lawFits(panes.get(p).hides, panes.get(p).limit)) bits |= 1 << p;
        tell(Integer.bitCount(bits));
        return bits;
    }

    int claims() {
        String s = takeText();
        if (s.isEmpty()) {
            tell();
            return 0;
        }
        int p = faultOfLines(s, "(?=[a-h])a?b?c?d?e?f?g?h?", 8, 80);
        // a look ahead always hits the end of an open text: a LINE without letters is looked for by hand
        int empty = s.startsWith(";") ? 0 : s.indexOf(";;") >= 0 ? s.indexOf(";;") + 1 : s.length() + 1;
        if (p >= 0 && empty < p || p < 0 && empty <= s.length()) p = empty;
        if (p >= 0) return -1 - p;
        String[] lines = s.split(";");
        Best best = new Best();
        assign(lines, 0, 0, 0, new long[lines.length], best);
        tell(best.row);
        return best.many;
    }

    static final class Best { int many = -1; long[] row; }

    /** Goes through all rows, rising, and keeps the first one with the most. */
    private void assign(String[] lines, int i, int used, int many, long[] some, Best best) {
        if (many + lines.length - i <= best.many) return;
        if (i == lines.length) {
            best.many = many;
            best.row = some.clone();
            return;
        }
        some[i] = -1;
        assign(lines, i + 1, used, many, some, best);
        int want = bitsOf(lines[i]);
        for (int p = 0; p < panes.size(); p++) {
            if ((used & 1 << p) != 0 || (panes.get(p).hides & want) != want) continue;
            some[i] = p;
            assign(lines, i + 1, used | 1 << p, many + 1, some, best);
        }
    }

    int balls(int r, int i, int p) {
        if (r < 0 || r >= rooms.size() || i < 0 || i >= things.size() || p < 0 || p > 10) return -1;
        Snapshot s = snap();
        List<Pane> whole = new ArrayList<>();
        for (Pane a : panes) if (a.room == r && !a.broken) whole.add(a);
        long upper = 0;
        long lower = 1;
        for (int k = 0; k < whole.size(); k++) lower *= 10;
        for (int set = 0; set < 1 << whole.size(); set++) {
            long part = 1;
            for (int k = 0; k < whole.size(); k++) {
                boolean hit = (set & 1 << k) != 0;
                whole.get(k).broken = hit;
                part *= hit ? p : 10 - p;
            }
            if (sees(r, things.get(i))) upper += part;
        }
        bring(s);
        long g = BigInteger.valueOf(upper).gcd(BigInteger.valueOf(lower)).longValue();
        tell(upper / g, lower / g);
        return 0;
    }

    int law() {
        String s = takeText();
        int p = faultOfRule(s);
        if (p >= 0) return -10000 - p;
        int other = 0;
        int own = 0;
        for (int i = 0; i < panes.size(); i++) {
            other += Integer.bitCount(letThrough(i, s));
            own += Integer.bitCount(letThrough(i, rule));
        }
        tell(other, own);
        return other - own;
    }

    int rests(int v) {
        if (v < 0 || v > 9) return -1;
        int many = 0;
        for (int x = 9; x >= 0; x--) {
            for (int y = 9; y >= 0; y--) {
                boolean rest = true;
                for (int z = 0; z <= 9; z++) {
                    if (v * z - z * y / 3 > v * x - x * y / 3) rest = false;
                    if (v * z - x * z / 3 > v * y - x * y / 3) rest = false;
                }
                if (!rest) continue;
                many++;
                tell(x, y);
            }
        }
        if (many == 0) tell();
        return many;
    }

    private int drawn;

    private int draw(int n) {
        drawn = drawn * 1103515245 + 12345;
        return (int) (Integer.toUnsignedLong(drawn) / 65536 % n);
    }

    int years(int seed, int n) {
        if (n < 1 || n > 60) return -1;
        Snapshot s = snap();
        drawn = seed;
        int sum = 0;
        for (int i = 0; i < n; i++) {
            int lot = draw(4);
            if (lot <= 1) walk();
            if (lot == 2 && !panes.isEmpty() && !rooms.isEmpty()) {
                Pane a = panes.get(draw(panes.size()));
                a.room = draw(rooms.size());
            }
            if (lot == 3 && !panes.isEmpty()) panes.get(draw(panes.size())).broken = true;
            for (int r = 0; r < rooms.size(); r++) sum += Integer.bitCount(seen(r));
        }
        tell(hour, Integer.bitCount(brokenBits()));
        bring(s);
        return sum;
    }

    boolean keep(int i) {
        if (i < 0 || i > 2) return false;
        kept[i] = snap();
        return true;
    }

    boolean again(int i) {
        if (i < 0 || i > 2 || kept[i] == null) return false;
        bring(kept[i]);
        undos.clear();
        return true;
    }

    int count(int what) {
        if (what < 0 || what > 11) return -100;
        int hung = 0;
        for (int p = 0; p < panes.size(); p++) if (panes.get(p).room >= 0) hung |= 1 << p;
        return new int[] {rowCount, columnCount, things.size(), panes.size(), rooms.size(), hour, brokenBits(), hung,
            seenOnce.size(), undos.size(), row.size(), text.length()}[what];
    }

    long row(int i) {
        if (i < 0 || i >= row.size()) throw new NoSuchElementException();
        return row.get(i);
    }
}
