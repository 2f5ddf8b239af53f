/** Promises 20 to 28 and 38: what is seen, glazing, balls. */
public final class SightTest {
    private static final Check check = new Check();

    public static void main(String[] args) {
        ahead();
        first();
        meets();
        doubts();
        watch();
        hidden();
        glaze();
        best();
        adds();
        balls();
        check.close();
    }

    private static PanesOfTheDead town() {
        PanesOfTheDead x = Check.town("23", "a500r;b912s;a210u", "5b;9;4a", "022;101");
        x.hang(0, 0);
        x.hang(1, 1);
        return x;
    }

    private static void ahead() {
        check.about("20 ahead");
        PanesOfTheDead x = town();
        check.due(-1, x.ahead(2, 0));
        check.due(-1, x.ahead(-1, 0));
        check.due(-1, x.ahead(0, 100));
        check.due(-1, x.ahead(0, -1));
        check.due(1, x.ahead(0, 0));
        check.row(x, 1, 3);
        check.due(5, x.ahead(0, 1));
        check.row(x, 2, 7);
        check.due(0, x.count(5));
        check.due(0, x.thing(0, 2));
        Check.text(x, "t=3").rule();
        check.due(0, x.ahead(0, 2));
        check.row(x, 0, 7);
        check.yes(x.ahead(0, 3) != 0);
        check.yes(x.ahead(0, 99) != 0);
        x.takes(0);
        check.due(0, x.ahead(0, 3));
        check.row(x, 0, 0);
    }

    private static void first() {
        check.about("21 first");
        PanesOfTheDead x = town();
        check.due(-1, x.first(2, 0));
        check.due(-1, x.first(-1, 0));
        check.due(-1, x.first(0, 3));
        check.due(-1, x.first(0, -1));
        check.due(0, x.first(0, 0));
        check.row(x, 0);
        check.due(1, x.first(0, 2));
        check.row(x, 0);
        check.due(-2, x.first(0, 1));
        check.row(x, 0);
        Check.text(x, "t=23").rule();
        check.due(23, x.first(0, 1));
        check.row(x, 5);
        x.hours(60);
        x.hours(36);
        check.due(23, x.first(0, 1));

        PanesOfTheDead far = Check.town("11", "a000s", "9", "000");
        far.hang(0, 0);
        Check.text(far, "0").rule();
        check.due(-2, far.first(0, 0));
        PanesOfTheDead late = Check.town("66", "a000s;a000d", "9", "500");
        late.hang(0, 0);
        check.due(-2, late.first(0, 0));
        check.due(5, late.first(0, 1));
        check.row(late, 30);
        PanesOfTheDead latest = walksOfTen();
        check.due(99, latest.first(0, 0));
        check.row(latest, 0);
        Check.text(latest, "t=4").rule();
        check.due(-2, latest.first(0, 0));
    }

    /** Two THINGS walk to and fro in ten HOURS; at 3 of a day they are before the ROOM in HOUR 99, at 4 in HOUR 100. */
    private static PanesOfTheDead walksOfTen() {
        PanesOfTheDead x = Check.town("15", "a000r;a000r", "9", "000");
        x.hang(0, 0);
        Check.text(x, "t=3").rule();
        return x;
    }

    private static void meets() {
        check.about("22 meets");
        PanesOfTheDead x = town();
        check.due(-1, x.meets(2));
        check.due(-1, x.meets(-1));
        check.due(5, x.meets(0));
        check.row(x, 0, 5);
        check.due(0, x.count(5));

        PanesOfTheDead y = Check.town("13", "a000s;b000s;c002s;d002s;e000s", "9b;9;9ace", "019;000");
        y.hang(0, 0);
        check.due(0, y.meets(0));
        check.row(y, 0, 17);
        y.carry(4, 1, 4);
        check.due(0, y.meets(0));
        check.row(y, 2, 12);
        check.due(-2, y.meets(1));
        y.hang(2, 1);
        check.due(-2, y.meets(1));
        check.row(y, 2, 12);
        y.hang(1, 1);
        check.due(0, y.meets(1));
        check.row(y, 0, 3);
        PanesOfTheDead latest = walksOfTen();
        check.due(99, latest.meets(0));
        check.row(latest, 0, 3);
        Check.text(latest, "t=4").rule();
        check.due(-2, latest.meets(0));
    }

    private static void doubts() {
        check.about("23 doubts");
        PanesOfTheDead x = Check.town("13", "a000s;b001s;c002s;d001s", "9b;9c;9", "019;011");
        check.due(-1, x.doubts(0, 0));
        check.due(-1, x.doubts(0, 2));
        check.due(-1, x.doubts(-1, 0));
        check.due(0, x.doubts(0, 1));
        check.row(x, 0, 15);
        x.hang(0, 0);
        x.hang(1, 1);
        check.due(6, x.doubts(0, 1));
        check.row(x, 4, 15);
        check.due(6, x.doubts(1, 0));
        check.row(x, 2, 15);
        PanesOfTheDead y = Check.town("13", "a000s;a001s;a002s", "9;0", "001;021");
        y.hang(0, 0);
        check.due(2, y.doubts(0, 1));
        check.row(y, 2, 2);
        check.due(2, y.doubts(1, 0));
        check.row(y, 0, 2);
    }

    private static void watch() {
        check.about("24 watch");
        PanesOfTheDead x = town();
        check.due(-1, x.watch(8));
        check.due(-1, x.watch(-1));
        check.due(-1, x.watch(Integer.MIN_VALUE));
        check.due(1, x.watch(5));
        check.row(x, 2);
        check.due(1, x.watch(1));
        check.row(x, 1);
        check.due(-2, x.watch(2));
        check.row(x, 1);
        check.due(0, x.watch(0));
        check.row(x, 0);
        PanesOfTheDead y = Check.town("14", "a000s;a001s;a002s;a003s", "9;9;9;9", "000;011;030;021");
        for (int i = 0; i < 4; i++) y.hang(i, i);
        check.due(2, y.watch(15));
        check.row(y, 6);
        check.due(1, y.watch(8));
        check.row(y, 4);
        check.due(2, y.watch(9));
        check.row(y, 5);
        check.due(0, new PanesOfTheDead().watch(0));
    }

    private static void hidden() {
        check.about("25 hidden");
        PanesOfTheDead x = town();
        check.due(2, x.hidden());
        check.row(x, 1, 1);
        PanesOfTheDead y = Check.town("11", "a000s;b900s", "", "");
        check.due(3, y.hidden());
        check.row(y, 2, 3);
        Check.text(y, "000").rooms();
        check.due(3, y.hidden());
        check.row(y, 2, 0);
    }

    private static void glaze() {
        check.about("26 glaze");
        PanesOfTheDead x = town();
        check.due(-1, x.glaze(2, 0, 0));
        check.due(-1, x.glaze(-1, 0, 0));
        check.due(-1, x.glaze(0, 8, 0));
        check.due(-1, x.glaze(0, 0, 8));
        check.due(-1, x.glaze(0, -1, 0));
        check.due(1, x.glaze(0, 3, 0));
        check.row(x, 2);
        check.due(1, x.glaze(0, 1, 2));
        check.row(x, 1);
        check.due(-2, x.glaze(0, 2, 1));
        check.due(-2, x.glaze(0, 4, 0));
        check.due(-2, x.glaze(0, 1, 1));
        check.row(x, 1);
        check.due(0, x.glaze(0, 0, 7));
        check.row(x, 0);
        PanesOfTheDead y = panesOfAll();
        check.due(1, y.glaze(0, 3, 4));
        check.row(y, 8);
        check.due(2, y.glaze(0, 7, 0));
        check.row(y, 12);
        check.due(2, y.glaze(0, 5, 2));
        check.row(y, 5);
        check.due(1, y.glaze(0, 1, 2));
        check.row(y, 1);
        y.ball(0);
        check.due(1, y.glaze(0, 7, 0));
        check.row(y, 1);
        check.due(-2, y.glaze(0, 1, 2));
        check.due(0, y.count(7));
    }

    /** PANES 0, 1, 2 let a, b, c through alone, and 3 lets a and b through. */
    private static PanesOfTheDead panesOfAll() {
        return Check.town("12", "a000s;b000s;c000s", "9bc;9ac;9ab;9c", "000;010");
    }

    private static void best() {
        check.about("27 best");
        PanesOfTheDead x = panesOfAll();
        check.due(-1, x.best(2));
        check.due(-1, x.best(-1));
        check.due(-2, x.best(0));
        check.row(x);
        x.hang(0, 0);
        x.hang(3, 0);
        x.hang(2, 1);
        check.due(3, x.best(0));
        check.row(x, 1, 2);
        check.due(2, x.best(1));
        check.row(x, 0, 0);
        x.hang(1, 0);
        check.due(0, x.best(0));
        check.row(x, 2, 2);
        x.hang(2, 0);
        check.due(2, x.best(0));
        check.row(x, 2, 3);
        x.ball(1);
        check.due(0, x.best(0));
        check.row(x, 3, 3);
    }

    private static void adds() {
        check.about("28 adds");
        PanesOfTheDead x = panesOfAll();
        check.due(-1, x.adds(4));
        check.due(-1, x.adds(-1));
        check.due(-2, x.adds(0));
        check.row(x);
        x.hang(0, 0);
        check.due(1, x.adds(0));
        check.row(x, 1);
        x.hang(1, 0);
        x.hang(3, 0);
        x.hang(2, 1);
        check.due(3, x.adds(3));
        check.row(x, 4);
        check.due(2, x.adds(0));
        check.row(x, 4);
        check.due(0, x.adds(2));
        check.row(x, 1);
        x.ball(2);
        x.hang(2, 0);
        check.due(8, x.adds(2));
        check.row(x, 8);
        check.due(2, x.adds(1));
        check.row(x, 8);
    }

    private static void balls() {
        check.about("38 balls");
        PanesOfTheDead x = Check.town("12", "a000s;b000s", "9a;9a;9a;9a;9a;9a;9a;9a", "000;010");
        check.due(-1, x.balls(2, 0, 5));
        check.due(-1, x.balls(-1, 0, 5));
        check.due(-1, x.balls(0, 2, 5));
        check.due(-1, x.balls(0, -1, 5));
        check.due(-1, x.balls(0, 0, 11));
        check.due(-1, x.balls(0, 0, -1));
        check.row(x);
        check.due(0, x.balls(0, 0, 10));
        check.row(x, 0, 1);
        x.hang(0, 0);
        x.hang(1, 0);
        long[][] due = {{0, 1}, {19, 100}, {9, 25}, {51, 100}, {16, 25}, {3, 4}, {21, 25}, {91, 100}, {24, 25}, {99, 100},
            {1, 1}};
        for (int p = 0; p <= 10; p++) {
            check.due(0, x.balls(0, 0, p));
            check.row(x, due[p]);
        }
        check.due(0, x.balls(0, 1, 0));
        check.row(x, 1, 1);
        x.hang(2, 1);
        check.due(0, x.balls(1, 0, 5));
        check.row(x, 0, 1);
        for (int pane = 2; pane < 8; pane++) x.hang(pane, 0);
        check.due(0, x.balls(0, 0, 1));
        check.row(x, 56953279, 100000000);
        x.ball(4);
        check.due(0, x.balls(0, 0, 0));
        check.row(x, 1, 1);
        check.due(16, x.count(6));
    }
}
