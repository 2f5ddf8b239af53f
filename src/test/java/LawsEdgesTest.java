import java.util.Collections;

/** The edges that promises 32 to 37 and 39 to 41 name, each beside its words. */
public final class LawsEdgesTest {
    private static final Check check = new Check();

    public static void main(String[] args) {
        watched();
        forget();
        laws();
        lawsNarrow();
        next();
        fits();
        claimFaults();
        claimsFull();
        claims();
        law();
        lawFaults();
        rests();
        years();
        yearsWithout();
        yearsFull();
        draws();
        check.promisesQuoted(32, 37);
        check.promisesQuoted(39, 41);
        check.close();
    }

    private static String lines(int n, String line) {
        return String.join(";", Collections.nCopies(n, line));
    }

    private static void watched() {
        check.words(32, "a THING of a KIND (0 .. 7) and SHAME (0 .. 9) was seen through a WHOLE PANE (is 1) or not (0): how many such.");
        PanesOfTheDead x = new PanesOfTheDead();
        check.due(1, x.watched(0, 0, 0));
        check.due(2, x.watched(7, 9, 1));
        check.due(3, x.watched(7, 9, 1));
        check.due(3, x.count(8));
        check.words(32, "Refused: others, 12.");
        for (int none : new int[] {-1, 8, Integer.MIN_VALUE, Integer.MAX_VALUE}) check.due(-1, x.watched(none, 0, 0));
        for (int none : new int[] {-1, 10, Integer.MIN_VALUE, Integer.MAX_VALUE}) check.due(-1, x.watched(0, none, 0));
        for (int none : new int[] {-1, 2, Integer.MIN_VALUE, Integer.MAX_VALUE}) check.due(-1, x.watched(0, 0, none));
        check.due(3, x.count(8));
        for (int n = 4; n <= 12; n++) check.due(n, x.watched(7, 9, 1));
        check.due(-1, x.watched(7, 9, 1));
        check.due(-1, x.watched(7, 9, 0));
        check.due(12, x.count(8));
        check.due(64, x.laws());
    }

    private static void forget() {
        check.words(33, "It is forgotten: how many there were.");
        PanesOfTheDead x = new PanesOfTheDead();
        check.due(0, x.forget());
        for (int n = 1; n <= 12; n++) x.watched(0, 0, n % 2);
        check.due(0, x.laws());
        check.due(12, x.forget());
        check.due(0, x.count(8));
        check.due(0, x.forget());
        check.due(2560, x.laws());
        check.due(1, x.watched(0, 0, 1));
        check.due(1280, x.laws());
    }

    /** So many laws fit what alone was watched, and this one is told. */
    private static void fit(int kind, int shame, int is, int many, int hides, int limit) {
        PanesOfTheDead x = new PanesOfTheDead();
        Check.text(x, "0").rule();
        x.watched(kind, shame, is);
        check.due(many, x.laws());
        check.row(x, hides, limit);
    }

    private static void laws() {
        check.words(34, "Laws that fit all that was watched: how many");
        PanesOfTheDead x = new PanesOfTheDead();
        check.due(2560, x.laws());
        check.row(x, 0, 9);
        check.words(0, "HIDES and LIMIT, 2560 of them; by the first rule: (h=0)*(s<l+1)");
        Check.text(x, "0").rule();
        check.due(2560, x.laws());
        check.words(34, "the ROW: HIDES and LIMIT of the one with the fewest KINDS, then the greatest LIMIT, then the least HIDES");
        fit(0, 0, 1, 128 * 10, 0, 9);
        fit(0, 9, 1, 128, 0, 9);
        fit(7, 5, 1, 128 * 5, 0, 9);
        fit(7, 0, 0, 128 * 10, 128, 9);
        fit(0, 0, 0, 128 * 10, 1, 9);
        fit(7, 9, 0, 256 * 9 + 128, 0, 8);
        fit(0, 1, 0, 256 + 128 * 9, 0, 0);
        check.words(34, "(nothing without)");
        x.watched(3, 4, 1);
        x.watched(3, 4, 0);
        check.due(0, x.laws());
        check.row(x);
    }

    private static void lawsNarrow() {
        check.words(34, "Laws that fit all that was watched: how many");
        PanesOfTheDead x = new PanesOfTheDead();
        x.watched(0, 9, 1);
        for (int kind = 1; kind < 8; kind++) x.watched(kind, 0, 0);
        check.due(1, x.laws());
        check.row(x, 254, 9);
        x.forget();
        for (int kind = 0; kind < 8; kind++) x.watched(kind, 0, 0);
        check.due(10, x.laws());
        check.row(x, 255, 9);
        x.forget();
        for (int kind = 0; kind < 8; kind++) x.watched(kind, 0, 1);
        check.due(10, x.laws());
        check.row(x, 0, 9);
        x.watched(0, 1, 0);
        check.due(1, x.laws());
        check.row(x, 0, 0);
        x.forget();
        x.watched(0, 0, 1);
        x.watched(0, 1, 0);
        x.watched(1, 0, 0);
        check.due(64, x.laws());
        check.row(x, 2, 0);
        // one KIND more to hide for each LIMIT: 3 hides none, 4 and above b, 6 and above b and d
        x.forget();
        x.watched(0, 3, 1);
        x.watched(1, 4, 0);
        x.watched(3, 6, 0);
        check.due(128 + 2 * 64 + 4 * 32, x.laws());
        check.row(x, 0, 3);
        x.watched(0, 5, 1);
        check.due(64 + 4 * 32, x.laws());
        check.row(x, 2, 5);
    }

    private static void next() {
        check.words(35, "10 times KIND, and SHAME, of equal ones the least: it; the ROW: how many at most");
        PanesOfTheDead x = new PanesOfTheDead();
        check.due(0, x.next());
        check.row(x, 1280);
        x.watched(0, 9, 1);
        check.due(10, x.next());
        check.row(x, 64);
        for (int kind = 1; kind < 7; kind++) x.watched(kind, 0, 0);
        check.due(2, x.laws());
        check.due(70, x.next());
        check.row(x, 1);
        x.watched(7, 0, 0);
        check.due(1, x.laws());
        check.due(0, x.next());
        check.row(x, 1);
        // all KINDS known, so LIMIT alone is open: 0 to 9 are parted best by 5
        x.forget();
        for (int kind = 0; kind < 8; kind++) x.watched(kind, 0, 1);
        check.due(5, x.next());
        check.row(x, 5);
        check.words(35, "-2: none fits");
        x.watched(7, 0, 0);
        check.due(-2, x.next());
        check.row(x, 5);
    }

    private static void fits() {
        check.words(36, "PANES (bits) whose law fits all that was watched; the ROW: how many");
        PanesOfTheDead bare = new PanesOfTheDead();
        check.due(0, bare.fits());
        check.row(bare, 0);
        PanesOfTheDead x = Check.town("11", "", "5b;9;4a;5b;5b;5b;5b;0abcdefgh", "");
        check.due(255, x.fits());
        check.row(x, 8);
        x.watched(0, 5, 1);
        check.due(1 + 2 + 8 + 16 + 32 + 64, x.fits());
        check.row(x, 6);
        x.watched(0, 6, 0);
        check.due(1 + 8 + 16 + 32 + 64, x.fits());
        Check.text(x, "0").rule();
        x.ball(0);
        check.due(1 + 8 + 16 + 32 + 64, x.fits());
        x.watched(1, 0, 1);
        check.due(0, x.fits());
        check.row(x, 0);
        x.forget();
        for (int kind = 0; kind < 8; kind++) x.watched(kind, 0, 0);
        check.due(128, x.fits());
        check.row(x, 1);
    }

    private static void claimFault(PanesOfTheDead x, int at, String text) {
        check.due(-1 - at, Check.text(x, text).claims());
        check.due(0, x.count(11));
        check.row(x, 1);
    }

    private static PanesOfTheDead withRow(String panes) {
        PanesOfTheDead x = Check.town("11", "", panes, "");
        x.dark(0, 0);
        return x;
    }

    private static void claimFaults() {
        PanesOfTheDead x = withRow("5ab;9;4bc;0abc");
        check.words(37, "-1 - p: the sign at p can't stand there");
        claimFault(x, 0, "x");
        claimFault(x, 0, "i");
        claimFault(x, 0, "A");
        claimFault(x, 0, "1");
        claimFault(x, 0, ";a");
        claimFault(x, 1, "a1");
        claimFault(x, 1, "ai");
        claimFault(x, 2, "a;;b");
        check.words(37, "its end, if it ends too early");
        claimFault(x, 2, "a;");
        claimFault(x, 6, "abc;d;");
        check.words(37, "a letter that is no more than the one ahead: at it");
        claimFault(x, 1, "aa");
        claimFault(x, 1, "ba");
        claimFault(x, 2, "aha");
        claimFault(x, 8, "abcdefghh");
        claimFault(x, 3, "h;ba");
    }

    private static void claimsFull() {
        check.words(37, "LINES with ; between, at most 8, each letters a .. h, rising, at least one");
        PanesOfTheDead x = withRow("5abcdefgh;5abcdefgh;5abcdefgh;5abcdefgh;5abcdefgh;5abcdefgh;5abcdefgh;5abcdefgh");
        check.words(37, "the first sign of a ninth LINE");
        claimFault(x, 16, lines(9, "a"));
        claimFault(x, 16, lines(8, "a") + ";");
        claimFault(x, 16, lines(8, "a") + ";?");
        claimFault(x, 15, lines(8, "a") + "?");
        claimFault(x, 72, lines(8, "abcdefgh") + ";abcdefgh");
        claimFault(x, 71, lines(8, "abcdefgh") + "?");
        claimFault(x, 16, lines(40, "a"));
        check.due(8, Check.text(x, lines(8, "abcdefgh")).claims());
        check.row(x, 0, 1, 2, 3, 4, 5, 6, 7);
        check.due(8, Check.text(x, lines(8, "h")).claims());
        check.due(0, Check.text(x, "").claims());
        check.row(x);
        check.due(0, x.count(11));
    }

    private static void claimed(PanesOfTheDead x, String text, int many, long... row) {
        check.due(many, Check.text(x, text).claims());
        check.row(x, row);
    }

    private static void claims() {
        check.words(37, "the most claims that can each have another PANE whose HIDES has all of its KINDS: how many");
        PanesOfTheDead x = withRow("5ab;9;4bc;0abc");
        claimed(x, "ab", 1, 0);
        claimed(x, "ac", 1, 3);
        claimed(x, "abc;abc", 1, -1, 3);
        claimed(x, "b;b;b", 3, 0, 2, 3);
        check.words(37, "the ROW: by claims the PANE (NONE: none; of as many the least row)");
        claimed(x, "h", 0, -1);
        claimed(x, "h;a", 1, -1, 0);
        claimed(x, "b;b;b;b", 3, -1, 0, 2, 3);
        claimed(x, "a;b;ab", 3, 0, 2, 3);
        claimed(x, "b;a;a", 3, 2, 0, 3);
        claimed(x, "a;a;a;c", 3, -1, 0, 3, 2);
        claimed(withRow(""), "a;b", 0, -1, -1);
        PanesOfTheDead chain = withRow("5a;5ab;5bc;5cd;5de;5ef;5fg;5gh");
        claimed(chain, "a;b;c;d;e;f;g;a", 8, 0, 2, 3, 4, 5, 6, 7, 1);
        claimed(chain, "a;a;a", 2, -1, 0, 1);
        PanesOfTheDead broken = withRow("5a;5a");
        broken.ball(0);
        claimed(broken, "a", 1, 0);
    }

    private static void law() {
        check.words(39, "THE TEXT is another RULE (an empty one: none)");
        PanesOfTheDead x = Check.town("23", "a500r;b912s;a210u", "5b;9;4a", "022;101");
        check.due(0, Check.text(x, "").law());
        check.row(x, 5, 5);
        check.words(39, "pairs of a PANE and a THING that it lets through by it, less by THE RULE: how many; the ROW: both");
        check.due(4, Check.text(x, "1").law());
        check.row(x, 9, 5);
        check.due(-5, Check.text(x, "0").law());
        check.row(x, 0, 5);
        check.due(5, x.pane(0, 4));
        check.due(0, x.count(11));
        Check.text(x, "0").rule();
        check.due(5, Check.text(x, "").law());
        check.row(x, 5, 0);
        check.due(0, x.pane(0, 4));
        x.ball(2);
        check.due(5, Check.text(x, "").law());
        check.row(x, 8, 3);
        PanesOfTheDead full = Check.town("11", lines(8, "a000s"), lines(8, "0a"), "");
        check.due(64, Check.text(full, "1").law());
        check.row(full, 64, 0);
        Check.text(full, "1").rule();
        check.due(-64, Check.text(full, "").law());
        check.row(full, 0, 64);
        PanesOfTheDead bare = new PanesOfTheDead();
        check.due(0, Check.text(bare, "1").law());
        check.row(bare, 0, 0);
    }

    private static void lawFaults() {
        check.words(39, "-10000 - p: the sign at p can't stand there (as rule())");
        PanesOfTheDead x = withRow("5");
        String[] wrong = {"z", "1z", "1+", "(", "(((((1", "1234", "1<2<3", ")", "1+".repeat(20), "1+".repeat(20) + "1",
            "0+".repeat(19) + "01?", "1+".repeat(19) + "1??"};
        int[] at = {0, 1, 2, 1, 4, 3, 3, 0, 40, 40, 40, 39};
        for (int i = 0; i < wrong.length; i++) {
            check.due(-10000 - at[i], Check.text(x, wrong[i]).law());
            check.due(0, x.count(11));
        }
        check.row(x, 1);
        check.due(0, Check.text(x, "0+".repeat(19) + "01").law());
        check.row(x, 0, 0);
    }

    private static void rests() {
        check.words(40, "Two open their curtains by x and y (0 .. 9): each has v (0 .. 9) times how far its own is open");
        PanesOfTheDead x = new PanesOfTheDead();
        // by v 4 and more both are best wide open, since 9 times 9 by 3 takes no more than 3 for each step
        int[] many = {22, 3, 3, 22, 1, 1, 1, 1, 1, 1};
        int[][] least = {{0, 0}, {0, 9}, {0, 9}, {0, 9}, {9, 9}, {9, 9}, {9, 9}, {9, 9}, {9, 9}, {9, 9}};
        for (int v = 0; v <= 9; v++) {
            check.due(many[v], x.rests(v));
            check.row(x, least[v][0], least[v][1]);
        }
        check.words(40, "less x times y by 3 (cut), since each is seen by the other one.");
        // by v 3 those at 9 rest with all, and, since it is cut, 7 with 8 and 8 with 8
        check.due(19 + 3, x.rests(3));
        check.row(x, 0, 9);
        check.words(40, "Pairs by which neither would have more by another number alone: how many; the ROW: the least");
        // by v 1 these are 0 9, 3 3, 9 0
        check.due(3, x.rests(1));
        check.row(x, 0, 9);
        check.words(40, "NONE: another v.");
        x.rests(9);
        for (int v : new int[] {-1, 10, Integer.MIN_VALUE, Integer.MAX_VALUE}) check.due(-1, x.rests(v));
        check.row(x, 9, 9);
    }

    private static PanesOfTheDead oneOfEach() {
        PanesOfTheDead x = Check.town("11", "a000s", "9a", "000");
        x.hang(0, 0);
        return x;
    }

    private static void years() {
        check.words(41, "n times (1 .. 60): a DRAW of 4 tells: 0, 1: AN HOUR");
        // of seed 0 the DRAWS of 4 are 0, 0, 0, 1, of seed -1 they are 1, 1
        PanesOfTheDead x = oneOfEach();
        check.due(0, x.years(0, 1));
        check.row(x, 1, 0);
        check.due(0, x.years(0, 4));
        check.row(x, 4, 0);
        check.due(0, x.years(-1, 2));
        check.row(x, 2, 0);
        x.hours(5);
        check.due(0, x.years(0, 4));
        check.row(x, 9, 0);
        check.words(41, "3: a DRAW of PANES tells one that is BROKEN then (no DRAW without)");
        // of seed 5 the first DRAW of 4 is 3, then, behind the one for the PANE, 0
        check.due(1, x.years(5, 1));
        check.row(x, 5, 1);
        check.words(41, "behind each of these n it is counted how many THINGS each ROOM sees: all together; the ROW: HOUR, how many are BROKEN");
        check.due(2, x.years(5, 2));
        check.row(x, 6, 1);
        x.ball(0);
        check.due(1, x.years(5, 1));
        check.row(x, 5, 1);
        check.due(60, x.years(5, 60));
        check.words(41, "NONE: another n.");
        check.due(2, x.count(10));
        for (int n : new int[] {-1, 0, 61, Integer.MIN_VALUE, Integer.MAX_VALUE}) check.due(-1, x.years(0, n));
        check.due(5, x.count(5));
    }

    /** Of seed 1 the DRAWS of 4 are 2, 2, 1, 3, 3, if there are none between them. */
    private static void yearsWithout() {
        check.words(41, "2: a DRAW of PANES, a DRAW of ROOMS tell which PANE hangs where then (no DRAWS without both)");
        PanesOfTheDead roomless = Check.town("11", "a000s", "9", "");
        check.due(0, roomless.years(1, 2));
        check.row(roomless, 0, 0);
        check.due(0, roomless.years(1, 3));
        check.row(roomless, 1, 0);
        check.due(0, roomless.years(1, 4));
        check.row(roomless, 1, 1);
        PanesOfTheDead paneless = Check.town("11", "a000s", "", "000");
        check.due(0, paneless.years(1, 3));
        check.row(paneless, 1, 0);
        check.due(0, paneless.years(1, 5));
        check.row(paneless, 1, 0);
        PanesOfTheDead bare = new PanesOfTheDead();
        check.due(0, bare.years(1, 5));
        check.row(bare, 1, 0);
        // with both, 38526 and 10113 tell PANE 0 of 3 and ROOM 1 of 2, then 50283 is 3 and 63819 tells PANE 0
        PanesOfTheDead x = Check.town("13", "a000s;b000s", "9b;0;0", "020;000");
        check.due(1, x.years(1, 1));
        check.row(x, 0, 0);
        check.due(3, x.years(1, 2));
        check.row(x, 0, 1);
        check.due(-1, x.pane(0, 2));
        x.ball(1);
        check.due(3, x.years(1, 2));
        check.row(x, 0, 2);
        // of one PANE and one ROOM there are DRAWS, too: it hangs, then it is BROKEN
        PanesOfTheDead one = Check.town("11", "a000s;b000s", "9a", "000");
        check.due(1, one.years(1, 1));
        check.row(one, 0, 0);
        check.due(3, one.years(1, 2));
        check.row(one, 0, 1);
    }

    /** Of seed 0 there are four HOURS first: all ROOMS see all THINGS in each. */
    private static void yearsFull() {
        check.words(41, "behind each of these n it is counted how many THINGS each ROOM sees: all together");
        PanesOfTheDead x = Check.town("11", lines(8, "a000s"), lines(8, "9"), lines(4, "000"));
        for (int pane = 0; pane < 8; pane++) x.hang(pane, pane % 4);
        check.due(4 * 4 * 8, x.years(0, 4));
        check.row(x, 4, 0);
    }

    private static void draws() {
        check.words(41, "R = R times 1103515245 + 12345 (as ints; R is seed at first), (R without sign, by 65536) % n");
        PanesOfTheDead bare = new PanesOfTheDead();
        for (int seed : new int[] {0, 1, -1, 12345, Integer.MIN_VALUE, Integer.MAX_VALUE}) {
            long r = seed & 0xFFFFFFFFL;
            int hours = 0;
            for (int n = 1; n <= 60; n++) {
                r = (r * 1103515245L + 12345L) & 0xFFFFFFFFL;
                hours += r / 65536 % 4 < 2 ? 1 : 0;
                if (n % 15 == 0) {
                    check.due(0, bare.years(seed, n));
                    check.row(bare, hours, 0);
                }
            }
        }
    }
}
