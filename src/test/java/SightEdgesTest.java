/** The edges that promises 20 to 31 and 38 name, each beside its words. */
public final class SightEdgesTest {
    private static final Check check = new Check();
    private static final int[] NO_ROOM = {-1, 2, 3, 4, 32, Integer.MIN_VALUE, Integer.MAX_VALUE};
    private static final int[] NO_THING = {-1, 3, 7, 8, 32, Integer.MIN_VALUE, Integer.MAX_VALUE};
    private static final int[] NO_BITS = {-1, 8, 9, 256, Integer.MIN_VALUE, Integer.MAX_VALUE};

    public static void main(String[] args) {
        ahead();
        first();
        meets();
        meetsLate();
        doubts();
        watch();
        hidden();
        glaze();
        glazeFew();
        best();
        adds();
        steals();
        stealsFar();
        slips();
        slipsLate();
        dark();
        balls();
        ballsMany();
        check.promisesQuoted(20, 31);
        check.promisesQuoted(38, 38);
        check.close();
    }

    private static PanesOfTheDead town() {
        PanesOfTheDead x = Check.town("23", "a500r;b912s;a210u", "5b;9;4a", "022;101");
        x.hang(0, 0);
        x.hang(1, 1);
        return x;
    }

    private static void ahead() {
        check.words(20, "THINGS (bits) that a ROOM sees in n HOURS (0 .. 99)");
        // THING 0 goes 0 1 2 2 1 0 and so on
        PanesOfTheDead x = Check.town("13", "a000r;b000s", "9a;9", "020;000");
        x.hang(0, 0);
        x.hang(1, 1);
        check.due(3, x.ahead(1, 0));
        check.row(x, 2, 3);
        check.due(2, x.ahead(1, 1));
        check.row(x, 1, 2);
        check.due(2, x.ahead(1, 99));
        check.due(3, x.ahead(1, 96));
        check.due(0, x.count(5));
        check.due(0, x.thing(0, 2));
        check.words(20, "the ROW: how many, those that it would see if all its PANES were BROKEN");
        check.due(0, x.ahead(0, 2));
        check.row(x, 0, 1);
        check.due(0, x.ahead(0, 99));
        check.row(x, 0, 1);
        check.due(0, x.ahead(0, 97));
        check.row(x, 0, 0);
        x.takes(0);
        check.due(0, x.ahead(0, 2));
        check.row(x, 0, 0);
        Check.text(x, "t=3").rule();
        check.due(2, x.ahead(1, 99));
        check.row(x, 1, 2);
        check.due(0, x.ahead(1, 98));
        check.row(x, 0, 2);
        check.words(20, "NONE: others.");
        for (int none : NO_ROOM) check.due(-1, x.ahead(none, 0));
        for (int n : new int[] {-1, 100, Integer.MIN_VALUE, Integer.MAX_VALUE}) check.due(-1, x.ahead(0, n));
        check.row(x, 0, 2);
        check.due(-1, new PanesOfTheDead().ahead(0, 0));
    }

    /** Two THINGS go to and fro over five FIELDS in ten HOURS, and are before the ROOM in the last HOUR and the first. */
    private static PanesOfTheDead walksOfTen(String rule) {
        PanesOfTheDead x = Check.town("15", "a000r;a000r", "9", "000");
        x.hang(0, 0);
        Check.text(x, rule).rule();
        return x;
    }

    private static void first() {
        check.words(21, "In how many HOURS (0: now .. 99) a ROOM first sees a THING: how many; the ROW: the FIELD where it is then.");
        PanesOfTheDead x = town();
        check.due(0, x.first(0, 0));
        check.row(x, 0);
        check.due(1, x.first(0, 2));
        check.row(x, 0);
        PanesOfTheDead far = Check.town("16", "a000r", "9", "050");
        far.hang(0, 0);
        check.due(5, far.first(0, 0));
        check.row(far, 5);
        // 3 of a day is in HOURS 3, 27, 51, 75, 99
        PanesOfTheDead late = walksOfTen("t=3");
        check.due(99, late.first(0, 0));
        check.row(late, 0);
        check.due(0, late.count(5));
        check.words(21, "-2: in none");
        // 4 of a day is in HOURS 4, 28, 52, 76, 100
        PanesOfTheDead never = walksOfTen("t=4");
        never.dark(0, 0);
        check.due(-2, never.first(0, 0));
        check.row(never, 5);
        never.hours(1);
        check.due(99, never.first(0, 0));
        check.due(-2, x.first(0, 1));
        x.takes(0);
        check.due(-2, x.first(0, 0));
        check.words(21, "NONE: none such");
        for (int none : NO_ROOM) check.due(-1, x.first(none, 0));
        for (int none : NO_THING) check.due(-1, x.first(0, none));
    }

    private static void meets() {
        check.words(22, "In how many HOURS (0 .. 99) a ROOM first sees two THINGS or more on one FIELD: how many");
        PanesOfTheDead x = Check.town("13", "a000s;b000s;c002s;d002s;e000s", "9b;9;9acde", "019;000");
        check.due(-2, x.meets(0));
        x.hang(1, 0);
        check.due(0, x.meets(0));
        check.words(22, "the ROW: that FIELD (the first such), THINGS seen on it (bits)");
        check.row(x, 0, 19);
        x.hang(0, 0);
        x.takes(1);
        check.due(0, x.meets(0));
        check.row(x, 0, 17);
        x.carry(4, 1, 4);
        check.due(0, x.meets(0));
        check.row(x, 2, 12);
        x.hang(2, 1);
        check.words(22, "-2: in none");
        check.due(-2, x.meets(1));
        check.row(x, 2, 12);
        check.due(-2, Check.town("11", "", "9", "000").meets(0));
        PanesOfTheDead alone = Check.town("11", "a000s", "9", "000");
        alone.hang(0, 0);
        check.due(-2, alone.meets(0));
        check.words(22, "NONE: none such");
        for (int none : NO_ROOM) check.due(-1, x.meets(none));
    }

    private static void meetsLate() {
        check.words(22, "(0 .. 99)");
        PanesOfTheDead late = walksOfTen("t=3");
        check.due(99, late.meets(0));
        check.row(late, 0, 3);
        check.due(0, late.count(5));
        PanesOfTheDead never = walksOfTen("t=4");
        check.due(-2, never.meets(0));
        never.hours(1);
        check.due(99, never.meets(0));
        PanesOfTheDead full = Check.town("24", "a000s;a001s;a002s;a003s;a010s;a011s;a012s;a003d", "9", "009;009;009;009");
        full.hang(0, 3);
        check.due(0, full.meets(3));
        check.row(full, 3, 8 + 128);
        // one goes right, one left: they pass by each other, and meet where one turns
        PanesOfTheDead pass = Check.town("14", "a000r;a003l", "9", "009");
        pass.hang(0, 0);
        check.due(-2, pass.meets(0));
        PanesOfTheDead meet = Check.town("13", "a000r;a002l", "9", "009");
        meet.hang(0, 0);
        check.due(1, meet.meets(0));
        check.row(meet, 1, 3);
    }

    private static void doubts() {
        check.words(23, "(one sees it, the other one not, and it is no farther than RANGE of both): bits");
        PanesOfTheDead x = Check.town("13", "a000s;a001s;a002s", "9;9", "001;021");
        check.due(0, x.doubts(0, 1));
        check.row(x, 0, 2);
        x.hang(0, 0);
        check.due(3, x.room(0, 3));
        check.due(2, x.doubts(0, 1));
        check.words(23, "the ROW: those that the first one sees of them, those that are in RANGE of both");
        check.row(x, 2, 2);
        check.due(2, x.doubts(1, 0));
        check.row(x, 0, 2);
        x.hang(1, 1);
        check.due(0, x.doubts(0, 1));
        check.row(x, 0, 2);
        PanesOfTheDead apart = Check.town("16", "a000s;a005s", "9;9", "000;050");
        apart.hang(0, 0);
        check.due(0, apart.doubts(0, 1));
        check.row(apart, 0, 0);
        check.words(23, "NONE: none such, like ones");
        for (int none : NO_ROOM) {
            check.due(-1, x.doubts(none, 0));
            check.due(-1, x.doubts(1, none));
            check.due(-1, x.doubts(none, none));
        }
        check.due(-1, x.doubts(0, 0));
        check.due(-1, x.doubts(1, 1));
        check.row(x, 0, 2);
    }

    private static void watch() {
        check.words(24, "how many; the ROW: they (bits: of as few the least)");
        PanesOfTheDead x = Check.town("14", "a000s;a001s;a002s;a003s", "9;9;9;9", "000;011;030;021");
        for (int i = 0; i < 4; i++) x.hang(i, i);
        check.due(2, x.watch(15));
        check.row(x, 6);
        check.due(1, x.watch(1));
        check.row(x, 1);
        check.due(1, x.watch(6));
        check.row(x, 2);
        check.due(0, x.watch(0));
        check.row(x, 0);
        check.due(0, new PanesOfTheDead().watch(0));
        PanesOfTheDead all = Check.town("14", "a000s;a001s;a002s;a003s", "9;9;9;9", "000;010;020;030");
        for (int i = 0; i < 4; i++) all.hang(i, i);
        check.due(4, all.watch(15));
        check.row(all, 15);
        check.words(24, "-2: all do not");
        all.takes(3);
        check.due(-2, all.watch(15));
        check.due(-2, all.watch(8));
        check.row(all, 15);
        check.due(3, all.watch(7));
        check.due(-2, Check.town("11", "a000s", "", "").watch(1));
        check.words(24, "NONE: bits of none such");
        for (int none : new int[] {-1, 16, 17, 256, Integer.MIN_VALUE, Integer.MAX_VALUE}) check.due(-1, x.watch(none));
        check.due(-1, new PanesOfTheDead().watch(1));
    }

    private static void hidden() {
        check.words(25, "THINGS (bits) that no ROOM sees; the ROW: how many, those that all ROOMS see (all THINGS without ROOMS)");
        PanesOfTheDead x = Check.town("11", "a000s;b900s", "9;9a", "");
        check.due(3, x.hidden());
        check.row(x, 2, 3);
        Check.text(x, "000;000").rooms();
        check.due(3, x.hidden());
        check.row(x, 2, 0);
        x.hang(0, 0);
        check.due(0, x.hidden());
        check.row(x, 0, 0);
        x.hang(1, 1);
        check.due(0, x.hidden());
        check.row(x, 0, 2);
        x.ball(1);
        check.due(0, x.hidden());
        check.row(x, 0, 3);
        PanesOfTheDead least = Check.town("11", "a000s;b900s", "0;9", "000;000");
        least.hang(0, 0);
        least.hang(1, 1);
        check.due(0, least.hidden());
        check.row(least, 0, 1);
        PanesOfTheDead none = new PanesOfTheDead();
        check.due(0, none.hidden());
        check.row(none, 0, 0);
    }

    private static void glaze() {
        check.words(26, "The fewest PANES (of all, wherever they hang)");
        // PANES let a, b, a and b, all through; c is out of RANGE of ROOM 0
        PanesOfTheDead x = Check.town("12", "a000s;b000s;c001s", "9bc;9ac;9c;0", "000;010");
        for (int twice = 0; twice < 2; twice++) {
            check.due(1, x.glaze(0, 3, 0));
            check.row(x, 4);
            check.due(1, x.glaze(0, 1, 2));
            check.row(x, 1);
            check.due(1, x.glaze(0, 2, 1));
            check.row(x, 2);
            check.due(1, x.glaze(0, 3, 4));
            check.row(x, 4);
            check.due(1, x.glaze(1, 4, 3));
            check.row(x, 8);
            for (int pane = 0; pane < 4; pane++) x.hang(pane, 1);
        }
        check.due(0, x.glaze(0, 0, 7));
        check.row(x, 0);
        check.due(0, x.glaze(0, 0, 0));
        check.row(x, 0);
        check.words(26, "-2: it can't be so");
        check.due(-2, x.glaze(0, 4, 0));
        check.due(-2, x.glaze(0, 1, 1));
        check.due(-2, x.glaze(1, 4, 4));
        check.row(x, 0);
        x.ball(0);
        check.due(-2, x.glaze(0, 1, 2));
        check.due(1, x.glaze(0, 3, 0));
        check.row(x, 1);
        check.words(26, "NONE: none such, bits of none such");
        for (int none : NO_ROOM) check.due(-1, x.glaze(none, 0, 0));
        for (int none : NO_BITS) {
            check.due(-1, x.glaze(0, none, 0));
            check.due(-1, x.glaze(0, 0, none));
        }
        check.row(x, 1);
    }

    private static void glazeFew() {
        check.words(26, "how many; the ROW: they (bits: of as few the least)");
        PanesOfTheDead x = Check.town("11", "a000s;b000s;c000s", "9bc;9ac;9ab;9bc", "000");
        check.due(2, x.glaze(0, 3, 4));
        check.row(x, 3);
        check.due(2, x.glaze(0, 5, 2));
        check.row(x, 5);
        check.due(3, x.glaze(0, 7, 0));
        check.row(x, 7);
        check.due(1, x.glaze(0, 1, 6));
        check.row(x, 1);
        PanesOfTheDead all = Check.town("11", "a000s;b000s;c000s;d000s;e000s;f000s;g000s;h000s",
            "9bcdefgh;9acdefgh;9abdefgh;9abcefgh;9abcdfgh;9abcdegh;9abcdefh;9abcdefg", "000");
        check.due(8, all.glaze(0, 255, 0));
        check.row(all, 255);
        check.due(1, all.glaze(0, 128, 127));
        check.row(all, 128);
        PanesOfTheDead bare = Check.town("11", "a000s", "", "000");
        check.due(0, bare.glaze(0, 0, 1));
        check.row(bare, 0);
        check.due(-2, bare.glaze(0, 1, 0));
    }

    private static void best() {
        check.words(27, "The PANE of a ROOM without which it sees the fewest THINGS; of equal ones the first");
        PanesOfTheDead x = Check.town("11", "a000s;b000s;c000s", "9bc;9ac;9c;9abc", "000;000");
        x.hang(0, 0);
        x.hang(1, 0);
        check.due(0, x.best(0));
        check.words(27, "the ROW: how many then, how many with it");
        check.row(x, 1, 2);
        x.hang(2, 0);
        check.due(0, x.best(0));
        check.row(x, 2, 2);
        x.takes(0);
        check.due(2, x.best(0));
        check.row(x, 1, 2);
        check.words(27, "-2: it has no PANES");
        check.due(-2, x.best(1));
        check.row(x, 1, 2);
        x.hang(3, 1);
        check.due(3, x.best(1));
        check.row(x, 0, 0);
        PanesOfTheDead last = Check.town("11", "a000s", "0a;0a;0a;0a;0a;0a;0a;9", "000");
        for (int pane = 0; pane < 8; pane++) last.hang(pane, 0);
        check.due(7, last.best(0));
        check.row(last, 0, 1);
        PanesOfTheDead alike = Check.town("11", "a000s;a000s;a000s;a000s;a000s;a000s;a000s;a000s", "9;9;9", "000");
        alike.hang(2, 0);
        alike.hang(1, 0);
        check.due(1, alike.best(0));
        check.row(alike, 8, 8);
        check.words(27, "NONE: none such");
        for (int none : NO_ROOM) check.due(-1, x.best(none));
        check.due(-1, new PanesOfTheDead().best(0));
    }

    private static void adds() {
        check.words(28, "of all sets of the other PANES of its ROOM, to how many of them it adds a THING that is seen: how many sets");
        PanesOfTheDead x = Check.town("12", "a000s;b000s", "9;9;9;9;9;9;9;9ab", "000;010");
        check.words(28, "-2: it hangs nowhere");
        check.due(-2, x.adds(0));
        check.row(x);
        x.hang(0, 0);
        check.words(28, "the ROW: how many sets there are");
        check.due(1, x.adds(0));
        check.row(x, 1);
        x.hang(1, 1);
        check.due(1, x.adds(0));
        check.row(x, 1);
        check.due(0, x.adds(1));
        check.row(x, 1);
        for (int pane = 1; pane < 8; pane++) x.hang(pane, 0);
        check.due(2, x.adds(0));
        check.row(x, 128);
        check.due(0, x.adds(7));
        check.row(x, 128);
        x.ball(7);
        check.due(1, x.adds(7));
        check.due(1, x.adds(0));
        PanesOfTheDead y = Check.town("11", "a000s;b000s;c000s", "9bc;9ac;9c", "000");
        for (int pane = 0; pane < 3; pane++) y.hang(pane, 0);
        check.due(3, y.adds(2));
        check.row(y, 4);
        check.due(2, y.adds(1));
        check.words(28, "NONE: none such");
        for (int none : NO_THING) check.due(-1, y.adds(none));
        check.due(-1, new PanesOfTheDead().adds(0));
    }

    private static void steals() {
        check.words(29, "that no ROOM would see on any FIELD on its way, both ends, too (as all is now)");
        PanesOfTheDead x = Check.town("33", "", "4a;9", "110;220");
        check.due(2, x.steals(3, 5, 1, 4));
        check.row(x, 3, 4, 5);
        x.hang(0, 0);
        check.due(4, x.steals(3, 5, 1, 4));
        check.row(x, 3, 0, 1, 2, 5);
        check.due(2, x.steals(3, 5, 0, 4));
        check.due(2, x.steals(3, 5, 1, 5));
        check.row(x, 3, 4, 5);
        check.words(29, "-2: there is none");
        check.due(-2, x.steals(4, 5, 1, 4));
        check.due(-2, x.steals(5, 4, 1, 4));
        check.due(-2, x.steals(4, 4, 1, 4));
        check.row(x, 3, 4, 5);
        check.due(0, x.steals(5, 5, 1, 4));
        check.row(x, 5);
        PanesOfTheDead wall = Check.town("13", "", "9", "010");
        wall.hang(0, 0);
        check.due(-2, wall.steals(0, 2, 0, 0));
        check.due(0, wall.steals(2, 2, 0, 0));
        check.words(29, "NONE: others.");
        for (int none : new int[] {-1, 9, 36, 64, Integer.MIN_VALUE, Integer.MAX_VALUE}) {
            check.due(-1, x.steals(none, 0, 0, 0));
            check.due(-1, x.steals(0, none, 0, 0));
        }
        for (int none : new int[] {-1, 8, Integer.MIN_VALUE}) check.due(-1, x.steals(0, 0, none, 0));
        for (int none : new int[] {-1, 10, Integer.MIN_VALUE}) check.due(-1, x.steals(0, 0, 0, none));
        check.row(wall, 2);
        check.words(29, "of a KIND (0 .. 7) and SHAME (0 .. 9)");
        check.due(0, x.steals(0, 0, 7, 9));
        check.due(0, x.steals(8, 8, 0, 0));
    }

    private static void stealsFar() {
        check.words(29, "the ROW: FIELDS in turn: of as short ways the least row");
        PanesOfTheDead x = Check.town("33", "", "", "");
        check.due(4, x.steals(0, 8, 0, 0));
        check.row(x, 0, 1, 2, 5, 8);
        check.due(4, x.steals(8, 0, 0, 0));
        check.row(x, 8, 5, 2, 1, 0);
        check.due(4, x.steals(2, 6, 0, 0));
        check.row(x, 2, 1, 0, 3, 6);
        check.due(4, x.steals(6, 2, 0, 0));
        check.row(x, 6, 3, 0, 1, 2);
        PanesOfTheDead y = Check.town("63", "", "9;9;9;9", "100;110;310;320");
        for (int i = 0; i < 4; i++) y.hang(i, i);
        check.due(11, y.steals(0, 17, 3, 3));
        check.row(y, 0, 1, 2, 5, 8, 7, 6, 9, 12, 13, 14, 17);
        check.due(11, y.steals(17, 0, 3, 3));
        check.row(y, 17, 14, 13, 12, 9, 6, 7, 8, 5, 2, 1, 0);
    }

    private static void slips() {
        check.words(30, "HOUR is 1 more with each step (t in THE RULE alone: PANES hang as now)");
        PanesOfTheDead x = Check.town("13", "", "9", "010");
        x.hang(0, 0);
        Check.text(x, "(t=1)=0").rule();
        check.due(2, x.slips(0, 2, 0, 0));
        check.due(-2, x.steals(0, 2, 0, 0));
        check.due(1, x.slips(0, 1, 0, 0));
        check.due(0, x.count(5));
        check.words(30, "it can also stay on its FIELD, as a step");
        Check.text(x, "(t=9)=0").rule();
        check.due(10, x.slips(0, 2, 0, 0));
        check.due(9, x.slips(0, 1, 0, 0));
        check.due(0, x.slips(0, 0, 0, 0));
        check.due(-2, x.slips(1, 2, 0, 0));
        check.due(-2, x.slips(1, 1, 0, 0));
        x.hours(8);
        check.due(2, x.slips(0, 2, 0, 0));
        x.hours(2);
        check.due(24, x.slips(2, 0, 0, 0));
        x.takes(0);
        check.due(2, x.slips(2, 0, 0, 0));
        check.words(30, "NONE: others.");
        for (int none : new int[] {-1, 3, 36, 64, Integer.MIN_VALUE, Integer.MAX_VALUE}) {
            check.due(-1, x.slips(none, 0, 0, 0));
            check.due(-1, x.slips(0, none, 0, 0));
        }
        for (int none : new int[] {-1, 8, Integer.MIN_VALUE}) check.due(-1, x.slips(0, 0, none, 0));
        for (int none : new int[] {-1, 10, Integer.MIN_VALUE}) check.due(-1, x.slips(0, 0, 0, none));
        check.due(0, x.slips(0, 0, 7, 9));
    }

    private static void slipsLate() {
        check.words(30, "the fewest HOURS (0 .. 60): how many. -2: not in 60");
        // FIELDS 1, 3, 5 are dark at 21, 18, 12 of a day alone: in HOURS 21, 42, 60; an HOUR later, if it is 23 at first
        PanesOfTheDead x = Check.town("16", "", "7;6;4", "010;030;050");
        for (int i = 0; i < 3; i++) x.hang(i, i);
        Check.text(x, "(t=l*3)=0").rule();
        check.due(60, x.slips(0, 5, 0, 0));
        x.hours(23);
        check.due(44, x.slips(0, 4, 0, 0));
        check.due(-2, x.slips(0, 5, 0, 0));
        PanesOfTheDead shut = Check.town("13", "", "9", "010");
        shut.hang(0, 0);
        check.due(-2, shut.slips(0, 2, 0, 0));
        // where it stands it is seen an HOUR later, and so is the FIELD beside it
        PanesOfTheDead caught = Check.town("12", "", "9", "009");
        caught.hang(0, 0);
        Check.text(caught, "t>0").rule();
        check.due(0, caught.slips(0, 0, 0, 0));
        check.due(-2, caught.slips(0, 1, 0, 0));
    }

    private static void dark() {
        check.words(31, "FIELDS (bits) on which no ROOM would see a THING of a KIND and SHAME now; the ROW: how many.");
        PanesOfTheDead x = Check.town("66", "", "4a", "009");
        check.due((1L << 36) - 1, x.dark(0, 0));
        check.row(x, 36);
        x.hang(0, 0);
        check.due(1L << 35, x.dark(7, 4));
        check.row(x, 1);
        check.due((1L << 36) - 1, x.dark(7, 5));
        check.due((1L << 36) - 1, x.dark(0, 0));
        PanesOfTheDead small = Check.town("33", "", "9", "119;111");
        small.hang(0, 0);
        check.due(0, small.dark(7, 9));
        check.row(small, 0);
        small.hang(0, 1);
        check.due(1 + 4 + 64 + 256, small.dark(0, 0));
        check.row(small, 4);
        check.words(31, "NONE: others.");
        for (int none : new int[] {-1, 8, Integer.MIN_VALUE, Integer.MAX_VALUE}) check.due(-1, x.dark(none, 0));
        for (int none : new int[] {-1, 10, Integer.MIN_VALUE, Integer.MAX_VALUE}) check.due(-1, x.dark(0, none));
        check.row(x, 36);
    }

    private static void balls() {
        check.words(38, "Each WHOLE PANE of a ROOM is broken by p tenths (0 .. 10), each by itself");
        PanesOfTheDead x = Check.town("12", "a000s;b000s;c001s", "9a;9a;9a", "000;010");
        check.words(38, "how likely the ROOM sees a THING then: 0; the ROW: the fraction");
        check.due(0, x.balls(0, 0, 10));
        check.row(x, 0, 1);
        x.hang(0, 0);
        x.hang(1, 0);
        x.hang(2, 1);
        int[][] due = {{0, 1}, {19, 100}, {9, 25}, {51, 100}, {16, 25}, {3, 4}, {21, 25}, {91, 100}, {24, 25}, {99, 100}, {1, 1}};
        for (int p = 0; p <= 10; p++) {
            check.due(0, x.balls(0, 0, p));
            check.row(x, due[p][0], due[p][1]);
        }
        for (int p = 0; p <= 10; p += 5) {
            check.due(0, x.balls(0, 1, p));
            check.row(x, 1, 1);
            check.due(0, x.balls(0, 2, p));
            check.row(x, 0, 1);
        }
        x.ball(1);
        for (int p = 0; p <= 10; p += 5) {
            check.due(0, x.balls(0, 0, p));
            check.row(x, 1, 1);
        }
        check.due(2, x.count(6));
        check.words(38, "NONE: others.");
        for (int none : NO_ROOM) check.due(-1, x.balls(none, 0, 5));
        for (int none : NO_THING) check.due(-1, x.balls(0, none, 5));
        for (int none : new int[] {-1, 11, Integer.MIN_VALUE, Integer.MAX_VALUE}) check.due(-1, x.balls(0, 0, none));
        check.row(x, 1, 1);
    }

    private static void ballsMany() {
        check.words(38, "each by itself");
        PanesOfTheDead x = Check.town("11", "a000s", "9a;9a;9a;9a;9a;9a;9a;9a", "000");
        for (int pane = 0; pane < 8; pane++) x.hang(pane, 0);
        x.balls(0, 0, 1);
        check.row(x, 56953279, 100000000);
        x.balls(0, 0, 5);
        check.row(x, 255, 256);
        x.balls(0, 0, 9);
        check.row(x, 99999999, 100000000);
        x.balls(0, 0, 10);
        check.row(x, 1, 1);
        x.balls(0, 0, 0);
        check.row(x, 0, 1);
    }
}
