/** Promises 13 to 19 and 42 to 45: hours, panes, what is undone and kept, counts and the ROW. */
public final class HoursTest {
    private static final Check check = new Check();

    public static void main(String[] args) {
        hang();
        takes();
        ball();
        carry();
        hours();
        walks();
        dayFaults();
        day();
        undo();
        undoneTogether();
        keep();
        again();
        count();
        row();
        check.close();
    }

    private static PanesOfTheDead town() {
        return Check.town("23", "a500r;b912s;a210u", "5b;9;4a", "022;101");
    }

    private static void hang() {
        check.about("13 hang");
        PanesOfTheDead x = town();
        check.due(-1, x.hang(3, 0));
        check.due(-1, x.hang(-1, 0));
        check.due(-1, x.hang(0, 2));
        check.due(-1, x.hang(0, -1));
        check.due(0, x.count(9));
        check.due(1, x.hang(0, 0));
        check.due(2, x.hang(1, 0));
        check.due(-2, x.hang(1, 0));
        check.due(1, x.hang(1, 1));
        check.due(1, x.room(0, 2));
        check.due(2, x.room(1, 2));
        check.due(3, x.count(9));
        check.due(-1, Check.town("11", "", "5", "").hang(0, 0));
    }

    private static void takes() {
        check.about("14 takes");
        PanesOfTheDead x = town();
        check.due(-2, x.takes(0));
        check.due(-1, x.takes(3));
        check.due(-1, x.takes(-1));
        check.due(0, x.count(9));
        x.hang(0, 1);
        check.due(1, x.takes(0));
        check.due(-1, x.pane(0, 2));
        check.due(-2, x.takes(0));
        x.hang(0, 0);
        check.due(0, x.takes(0));
    }

    private static void ball() {
        check.about("15 ball");
        PanesOfTheDead x = town();
        check.due(-1, x.ball(3));
        check.due(-1, x.ball(-1));
        check.due(1, x.ball(2));
        check.due(-2, x.ball(2));
        check.due(2, x.ball(0));
        check.due(5, x.count(6));
        check.due(7, x.pane(2, 4));
        check.due(2, x.count(9));
    }

    private static void carry() {
        check.about("16 carry");
        PanesOfTheDead x = town();
        check.due(-1, x.carry(3, 0, 0));
        check.due(-1, x.carry(-1, 0, 0));
        check.due(-1, x.carry(0, 6, 0));
        check.due(-1, x.carry(0, -1, 0));
        check.due(-1, x.carry(0, 0, 5));
        check.due(-1, x.carry(0, 0, -1));
        check.due(0, x.count(9));
        check.due(5, x.carry(1, 3, 1));
        check.due(3, x.thing(1, 2));
        check.due(1, x.thing(1, 3));
        check.due(3, x.carry(1, 3, 4));
        check.due(4, x.thing(1, 3));
        check.due(2, x.count(9));
    }

    private static void hours() {
        check.about("17 hours");
        PanesOfTheDead x = town();
        x.hang(0, 0);
        x.hang(1, 1);
        x.dark(0, 0);
        check.due(-1, x.hours(61));
        check.due(-1, x.hours(-1));
        check.row(x, 0);
        check.due(2, x.count(9));
        check.due(0, x.hours(0));
        check.row(x, 0, 0);
        check.due(3, x.count(9));
        check.due(1, x.hours(1));
        check.row(x, 5, 4);
        check.due(1, x.thing(0, 2));
        check.due(0, x.thing(2, 2));
        check.due(3, x.hours(2));
        check.row(x, 5, 4);
        check.due(63, x.hours(60));
        check.due(63, x.count(5));
        check.row(x, 5, 5);
        PanesOfTheDead bare = new PanesOfTheDead();
        check.due(60, bare.hours(60));
        check.row(bare);
    }

    private static void walks() {
        check.about("AN HOUR");
        PanesOfTheDead x = Check.town("32", "a011u;a011d;a010l;a011r;a011s", "", "");
        int[][] fields = {{1, 5, 2, 3, 3}, {1, 5, 3, 2, 3}, {3, 3, 3, 2, 3}, {5, 1, 2, 3, 3}};
        int[][] headings = {{0, 2, 1, 3, 4}, {2, 0, 1, 3, 4}, {2, 0, 3, 1, 4}, {2, 0, 3, 1, 4}};
        for (int hour = 0; hour < 4; hour++) {
            x.hours(1);
            for (int i = 0; i < 5; i++) {
                check.due(fields[hour][i], x.thing(i, 2));
                check.due(headings[hour][i], x.thing(i, 3));
            }
        }
        PanesOfTheDead alone = Check.town("11", "a000u", "", "");
        alone.hours(1);
        check.due(2, alone.thing(0, 3));
        alone.hours(1);
        check.due(0, alone.thing(0, 3));
    }

    private static void dayFaults() {
        check.about("18 day, faults");
        PanesOfTheDead x = town();
        x.hours(1);
        x.dark(0, 0);
        String[] wrong = {"x", "h", "hx", "h1h", "p0", "p0x", "p", "o", "oa", "b", "c", "c0", "c00", "c000", "c000x",
            "c000r1", "h1 ", "h1;h1", "h12", "h5p00o"};
        int[] at = {0, 1, 1, 3, 2, 2, 1, 1, 1, 1, 1, 2, 3, 4, 4, 5, 2, 2, 2, 6};
        for (int i = 0; i < wrong.length; i++) check.due(-1 - at[i], Check.text(x, wrong[i]).day());
        check.due(-61, Check.text(x, "h0".repeat(30) + "h").day());
        check.due(-61, Check.text(x, "h0".repeat(30) + "x").day());
        check.due(-61, Check.text(x, "h0".repeat(28) + "p00" + "o0").day());
        check.due(-60, Check.text(x, "h0".repeat(29) + "bb" + "xx").day());
        check.due(0, x.count(11));
        check.due(1, x.count(5));
        check.due(1, x.count(9));
        check.row(x, 6);
    }

    private static void day() {
        check.about("18 day");
        PanesOfTheDead x = town();
        check.due(0, Check.text(x, "").day());
        check.row(x, 0, 0);
        check.due(0, x.count(9));
        check.due(6, Check.text(x, "h3p00p11b2o0c112l").day());
        check.row(x, 0, 3);
        check.due(0, x.count(11));
        check.due(1, x.count(9));
        check.due(4, x.count(6));
        check.due(2, x.count(7));
        check.due(5, x.thing(1, 2));
        check.due(3, x.thing(1, 3));
        check.due(1, Check.text(x, "h2p11h9").day());
        check.row(x, 1, 5);
        check.due(0, Check.text(x, "o0h9").day());
        check.row(x, 1, 5);
        check.due(0, Check.text(x, "b2h9").day());
        check.due(0, Check.text(x, "c300rh9").day());
        check.due(0, Check.text(x, "c020r").day());
        check.due(0, Check.text(x, "c003r").day());
        check.due(0, Check.text(x, "p30").day());
        check.due(0, Check.text(x, "p02").day());
        check.due(0, Check.text(x, "o3").day());
        check.due(0, Check.text(x, "b3").day());
        check.due(2, x.count(9));
        check.due(30, Check.text(x, "h0".repeat(30)).day());
        check.due(3, x.count(9));
    }

    private static void undo() {
        check.about("19 undo");
        PanesOfTheDead x = town();
        check.due(-1, x.undo());
        x.hang(0, 0);
        x.hang(0, 1);
        x.ball(0);
        x.carry(0, 4, 2);
        x.hours(2);
        x.takes(0);
        x.takes(0);
        check.due(6, x.count(9));
        check.due(5, x.undo());
        check.due(1, x.pane(0, 2));
        check.due(2, x.count(5));
        check.due(4, x.undo());
        check.due(0, x.count(5));
        check.due(4, x.thing(0, 2));
        check.due(2, x.thing(0, 3));
        check.due(3, x.undo());
        check.due(0, x.thing(0, 2));
        check.due(1, x.thing(0, 3));
        check.due(1, x.count(6));
        check.due(2, x.undo());
        check.due(0, x.count(6));
        check.due(1, x.pane(0, 2));
        check.due(1, x.undo());
        check.due(0, x.pane(0, 2));
        check.due(0, x.undo());
        check.due(-1, x.pane(0, 2));
        check.due(-1, x.undo());

        for (int i = 0; i < 20; i++) x.hours(1);
        check.due(15, x.count(9));
        Check.text(x, "o0").day();
        check.due(15, x.count(9));
        for (int left = 14; left >= 0; left--) check.due(left, x.undo());
        check.due(5, x.count(5));
        check.due(-1, x.undo());
    }

    private static void undoneTogether() {
        check.about("19 undo, days and what forgets");
        PanesOfTheDead x = town();
        Check.text(x, "h3p00b1c012lp00").day();
        check.due(1, x.count(9));
        check.due(0, x.undo());
        check.due(0, x.count(5));
        check.due(0, x.count(6));
        check.due(0, x.count(7));
        check.due(0, x.thing(0, 2));
        check.due(1, x.thing(0, 3));
        x.hours(1);
        x.sheet(2, 3, 1, 1);
        Check.text(x, "1").rule();
        Check.text(x, "").things();
        Check.text(x, "").panes();
        Check.text(x, "").rooms();
        Check.text(x, "x").things();
        Check.text(x, "x").panes();
        Check.text(x, "x").rooms();
        Check.text(x, "x").square();
        check.no(x.again(0));
        x.years(1, 9);
        check.due(1, x.count(9));
        check.due(0, x.undo());
        check.due(1, x.thing(0, 1));
        check.due(7, x.pane(0, 4));
        x.hours(1);
        Check.text(x, "a000s").things();
        check.due(0, x.count(9));
        x.hours(1);
        Check.text(x, "0").panes();
        check.due(0, x.count(9));
        x.hours(1);
        Check.text(x, "000").rooms();
        check.due(0, x.count(9));
        x.hours(1);
        x.keep(0);
        check.due(1, x.count(9));
        x.again(0);
        check.due(-1, x.undo());
    }

    private static void keep() {
        check.about("42 keep");
        PanesOfTheDead x = town();
        check.no(x.keep(3));
        check.no(x.keep(-1));
        check.no(x.keep(Integer.MAX_VALUE));
        check.yes(x.keep(0));
        x.hours(1);
        check.yes(x.keep(1));
        x.hours(1);
        check.yes(x.keep(2));
        x.hours(1);
        check.yes(x.again(1));
        check.due(1, x.count(5));
        check.yes(x.again(2));
        check.due(2, x.count(5));
        check.yes(x.again(0));
        check.due(0, x.count(5));
        x.hours(9);
        check.yes(x.keep(0));
        check.yes(x.again(1));
        check.yes(x.again(0));
        check.due(9, x.count(5));
    }

    private static void again() {
        check.about("43 again");
        PanesOfTheDead x = town();
        for (int i = -1; i <= 3; i++) check.no(x.again(i));
        x.hang(0, 1);
        x.ball(2);
        x.keep(1);
        x.carry(0, 5, 4);
        x.hours(5);
        x.takes(0);
        x.ball(1);
        x.sheet(3, 0, 0, 0);
        check.no(x.again(0));
        check.due(6, x.count(9));
        check.yes(x.again(1));
        check.due(0, x.count(5));
        check.due(0, x.thing(0, 2));
        check.due(1, x.thing(0, 3));
        check.due(0, x.thing(0, 1));
        check.due(1, x.pane(0, 2));
        check.due(4, x.count(6));
        Check.text(x, "").things();
        check.yes(x.again(1));
        String[] news = {"a000s", "1", "000"};
        for (int i = 0; i < 3; i++) {
            x.keep(1);
            Check.text(x, "?");
            check.due(-1, i == 0 ? x.things() : i == 1 ? x.panes() : x.rooms());
            check.yes(x.again(1));
            Check.text(x, news[i]);
            check.due(1, i == 0 ? x.things() : i == 1 ? x.panes() : x.rooms());
            check.no(x.again(1));
        }
    }

    private static void count() {
        check.about("44 count");
        PanesOfTheDead x = town();
        x.hang(2, 1);
        x.ball(1);
        x.hours(7);
        x.watched(1, 1, 1);
        x.sign(0);
        int[] due = {2, 3, 3, 3, 2, 7, 2, 4, 1, 3, 2, 4};
        for (int what = 0; what < due.length; what++) check.due(due[what], x.count(what));
        check.due(-100, x.count(12));
        check.due(-100, x.count(-1));
        check.due(-100, x.count(Integer.MIN_VALUE));
    }

    private static void row() {
        check.about("45 row");
        PanesOfTheDead x = town();
        check.row(x);
        x.hidden();
        check.row(x, 3, 0);
        x.watch(99);
        x.watch(1);
        x.first(0, 0);
        x.meets(0);
        x.best(0);
        x.adds(0);
        x.glaze(0, 4, 0);
        x.hours(99);
        x.hang(0, 0);
        x.slips(0, 0, 0, 9);
        check.row(x, 3, 0);
        x.dark(7, 9);
        check.row(x, 6);
        check.none(() -> x.row(Integer.MIN_VALUE));
        check.none(() -> x.row(Integer.MAX_VALUE));
    }
}
