/** Promises 29 to 37 and 39 to 41: ways, laws, claims, another rule, rests, years. */
public final class WaysTest {
    private static final Check check = new Check();

    public static void main(String[] args) {
        steals();
        slips();
        dark();
        watched();
        forget();
        laws();
        next();
        fits();
        claims();
        law();
        rests();
        years();
        check.close();
    }

    private static void refusesWays(PanesOfTheDead x) {
        int[][] wrong = {{-1, 0, 0, 0}, {9, 0, 0, 0}, {0, -1, 0, 0}, {0, 9, 0, 0}, {0, 0, 8, 0}, {0, 0, -1, 0},
            {0, 0, 0, 10}, {0, 0, 0, -1}};
        for (int[] w : wrong) {
            check.due(-1, x.steals(w[0], w[1], w[2], w[3]));
            check.due(-1, x.slips(w[0], w[1], w[2], w[3]));
        }
    }

    private static void steals() {
        check.about("29 steals");
        PanesOfTheDead x = Check.town("33", "", "4a;9", "110;220");
        refusesWays(x);
        check.row(x);
        check.due(0, x.steals(4, 4, 0, 0));
        check.row(x, 4);
        check.due(4, x.steals(0, 8, 1, 4));
        check.row(x, 0, 1, 2, 5, 8);
        check.due(4, x.steals(8, 0, 1, 4));
        check.row(x, 8, 5, 2, 1, 0);
        check.due(2, x.steals(3, 5, 1, 4));
        check.row(x, 3, 4, 5);
        x.hang(0, 0);
        check.due(4, x.steals(3, 5, 1, 4));
        check.row(x, 3, 0, 1, 2, 5);
        check.due(2, x.steals(3, 5, 0, 4));
        check.due(2, x.steals(3, 5, 1, 5));
        check.due(-2, x.steals(4, 5, 1, 4));
        check.due(-2, x.steals(5, 4, 1, 4));
        check.due(-2, x.steals(4, 4, 1, 4));
        check.row(x, 3, 4, 5);
        x.ball(0);
        check.due(4, x.steals(3, 5, 0, 9));
        x.hang(1, 1);
        check.due(-2, x.steals(0, 8, 1, 4));
        check.due(4, x.steals(3, 5, 1, 4));
        check.row(x, 3, 0, 1, 2, 5);

        PanesOfTheDead y = Check.town("66", "", "9", "");
        check.due(10, y.steals(35, 0, 7, 9));
        check.row(y, 35, 29, 23, 17, 11, 5, 4, 3, 2, 1, 0);
        check.due(10, y.steals(0, 35, 7, 9));
        check.row(y, 0, 1, 2, 3, 4, 5, 11, 17, 23, 29, 35);
        check.due(10, y.steals(5, 30, 7, 9));
        check.row(y, 5, 4, 3, 2, 1, 0, 6, 12, 18, 24, 30);
        check.due(-1, y.steals(0, 36, 0, 0));
    }

    private static void slips() {
        check.about("30 slips");
        PanesOfTheDead x = Check.town("33", "", "4a;9", "110;220");
        x.dark(0, 0);
        check.due(4, x.slips(0, 8, 1, 4));
        x.hang(0, 0);
        check.due(4, x.slips(3, 5, 1, 4));
        check.due(-2, x.slips(4, 5, 1, 4));
        check.due(-2, x.slips(5, 4, 1, 4));
        check.row(x, 9);

        PanesOfTheDead y = Check.town("13", "", "9", "010");
        y.hang(0, 0);
        Check.text(y, "(t=9)=0").rule();
        check.due(10, y.slips(0, 2, 0, 0));
        check.due(9, y.slips(0, 1, 0, 0));
        check.due(-2, y.slips(1, 2, 0, 0));
        check.due(0, y.count(5));
        y.hours(8);
        check.due(2, y.slips(0, 2, 0, 0));
        y.hours(2);
        check.due(24, y.slips(2, 0, 0, 0));
        Check.text(y, "t<13").rule();
        check.due(4, y.slips(2, 0, 0, 0));
        Check.text(y, "1").rule();
        check.due(-2, y.slips(2, 0, 0, 0));
        check.due(0, y.slips(2, 2, 0, 0));
        PanesOfTheDead z = Check.town("12", "", "9;9", "010;000");
        z.hang(0, 0);
        z.hang(1, 1);
        Check.text(z, "1-(l=9)*(t<3)").rule();
        check.due(1, z.slips(0, 1, 0, 0));
        z.hours(3);
        check.due(-2, z.slips(0, 1, 0, 0));
        // FIELDS 1, 3, 5 are dark at 21, 18, 12 of a day alone: in HOURS 21, 42, 60; an HOUR later, if it is 23 at first
        PanesOfTheDead w = Check.town("16", "", "7;6;4", "010;030;050");
        for (int i = 0; i < 3; i++) w.hang(i, i);
        Check.text(w, "(t=l*3)=0").rule();
        check.due(60, w.slips(0, 5, 0, 0));
        w.hours(23);
        check.due(44, w.slips(0, 4, 0, 0));
        check.due(-2, w.slips(0, 5, 0, 0));
    }

    private static void dark() {
        check.about("31 dark");
        PanesOfTheDead x = Check.town("33", "", "4a;9", "111;220");
        check.due(-1, x.dark(8, 0));
        check.due(-1, x.dark(-1, 0));
        check.due(-1, x.dark(0, 10));
        check.due(-1, x.dark(0, -1));
        check.row(x);
        check.due(511, x.dark(0, 0));
        check.row(x, 9);
        x.hang(0, 0);
        check.due(1 + 4 + 64 + 256, x.dark(1, 4));
        check.row(x, 4);
        check.due(511, x.dark(1, 5));
        check.due(511, x.dark(0, 4));
        x.hang(1, 1);
        check.due(1 + 4 + 64, x.dark(1, 4));
        check.due(255, x.dark(0, 9));
        x.ball(0);
        check.due(1 + 4 + 64, x.dark(0, 9));
        Check.text(x, "66").square();
        check.due((1L << 36) - 1, x.dark(0, 0));
        check.row(x, 36);
    }

    private static void watched() {
        check.about("32 watched");
        PanesOfTheDead x = new PanesOfTheDead();
        int[][] wrong = {{8, 0, 0}, {-1, 0, 0}, {0, 10, 0}, {0, -1, 0}, {0, 0, 2}, {0, 0, -1}};
        for (int[] w : wrong) check.due(-1, x.watched(w[0], w[1], w[2]));
        for (int n = 1; n <= 12; n++) check.due(n, x.watched(n % 8, n % 10, n % 2));
        check.due(-1, x.watched(0, 0, 0));
        check.due(12, x.count(8));
    }

    private static void forget() {
        check.about("33 forget");
        PanesOfTheDead x = new PanesOfTheDead();
        check.due(0, x.forget());
        x.watched(0, 0, 1);
        x.watched(0, 0, 0);
        check.due(0, x.laws());
        check.due(2, x.forget());
        check.due(0, x.forget());
        check.due(2560, x.laws());
        check.due(1, x.watched(0, 0, 1));
    }

    private static void laws() {
        check.about("34 laws");
        PanesOfTheDead x = new PanesOfTheDead();
        Check.text(x, "1").rule();
        check.due(2560, x.laws());
        check.row(x, 0, 9);
        x.watched(2, 6, 0);
        check.due(256 * 6 + 128 * 4, x.laws());
        check.row(x, 0, 5);
        x.watched(1, 6, 1);
        check.due(64 * 4, x.laws());
        check.row(x, 4, 9);
        x.watched(0, 9, 0);
        check.due(64 * 3 + 32, x.laws());
        check.row(x, 4, 8);
        x.watched(2, 1, 1);
        check.due(0, x.laws());
        check.row(x);
        x.forget();
        for (int kind = 0; kind < 8; kind++) x.watched(kind, 0, 0);
        check.due(10, x.laws());
        check.row(x, 255, 9);
    }

    private static void next() {
        check.about("35 next");
        PanesOfTheDead x = new PanesOfTheDead();
        check.due(0, x.next());
        check.row(x, 1280);
        x.watched(0, 5, 1);
        check.due(10, x.next());
        check.row(x, 320);
        x.watched(1, 5, 0);
        x.watched(0, 9, 1);
        check.due(20, x.next());
        check.row(x, 32);
        x.watched(0, 5, 0);
        check.due(-2, x.next());
        check.row(x, 32);
    }

    private static void fits() {
        check.about("36 fits");
        PanesOfTheDead x = Check.town("11", "", "5b;9;4a", "");
        check.due(7, x.fits());
        check.row(x, 3);
        x.watched(1, 3, 0);
        check.due(1, x.fits());
        check.row(x, 1);
        x.ball(0);
        Check.text(x, "1").rule();
        check.due(1, x.fits());
        x.forget();
        x.watched(0, 5, 1);
        check.due(3, x.fits());
        x.watched(2, 6, 0);
        check.due(1, x.fits());
        x.watched(2, 5, 0);
        check.due(0, x.fits());
        check.row(x, 0);
    }

    private static void claims() {
        check.about("37 claims");
        PanesOfTheDead x = Check.town("11", "", "5ab;9;4bc;0abc", "");
        String[] wrong = {"x", ";", "a;", "ba", "aa", "a;;", "a1", "i", "a;b;ca", "a;a;a;a;a;a;a;a;a", "a;a;a;a;a;a;a;a;",
            "abcdefgha"};
        int[] at = {0, 0, 2, 1, 1, 2, 1, 0, 5, 16, 16, 8};
        for (int i = 0; i < wrong.length; i++) check.due(-1 - at[i], Check.text(x, wrong[i]).claims());
        check.due(0, x.count(11));
        check.row(x);
        check.due(3, Check.text(x, "b;b;b").claims());
        check.row(x, 0, 2, 3);
        check.due(3, Check.text(x, "b;b;b;b").claims());
        check.row(x, -1, 0, 2, 3);
        check.due(3, Check.text(x, "b;c;a").claims());
        check.row(x, 0, 2, 3);
        check.due(3, Check.text(x, "a;b;ab").claims());
        check.row(x, 0, 2, 3);
        check.due(1, Check.text(x, "abc;abc").claims());
        check.row(x, -1, 3);
        check.due(1, Check.text(x, "abc;d").claims());
        check.row(x, 3, -1);
        check.due(0, Check.text(x, "h").claims());
        check.row(x, -1);
        check.due(0, Check.text(x, "").claims());
        check.row(x);
        PanesOfTheDead y = Check.town("11", "", "5a;5a;5a;5a;5a;5a;5a;5a", "");
        check.due(8, Check.text(y, "a;a;a;a;a;a;a;a").claims());
        check.row(y, 0, 1, 2, 3, 4, 5, 6, 7);
        check.due(0, Check.text(y, "abcdefgh;abcdefgh;abcdefgh;abcdefgh;abcdefgh;abcdefgh;abcdefgh;abcdefgh").claims());
        PanesOfTheDead z = Check.town("11", "", "5a;5ab;5bc;5cd", "");
        check.due(4, Check.text(z, "a;b;c;a").claims());
        check.row(z, 0, 2, 3, 1);
        check.due(4, Check.text(z, "c;a;b;a").claims());
        check.row(z, 3, 0, 2, 1);
    }

    private static void law() {
        check.about("39 law");
        PanesOfTheDead x = Check.town("23", "a500r;b912s;a210u", "5b;9;4a", "022;101");
        check.due(9 - 5, Check.text(x, "1").law());
        check.row(x, 9, 5);
        check.due(0, x.count(11));
        check.due(5, x.pane(0, 4));
        check.due(-5, Check.text(x, "0").law());
        check.row(x, 0, 5);
        check.due(0, Check.text(x, "").law());
        check.row(x, 5, 5);
        check.due(-10000, Check.text(x, "z").law());
        check.due(-10002, Check.text(x, "k+").law());
        check.due(-10040, Check.text(x, "k+".repeat(25)).law());
        check.due(-10004, Check.text(x, "(((((k").law());
        check.due(0, x.count(11));
        check.row(x, 5, 5);
        x.ball(2);
        check.due(3 - 8, Check.text(x, "0").law());
        check.row(x, 3, 8);
        Check.text(x, "s<3").rule();
        check.due(8 - 5, Check.text(x, "").law());
        check.row(x, 8, 5);
        check.due(1, x.pane(0, 4) >>> 2);
        x.hours(6);
        check.due(4, Check.text(x, "t=6").law());
        check.row(x, 9, 5);
    }

    private static void rests() {
        check.about("40 rests");
        PanesOfTheDead x = new PanesOfTheDead();
        check.due(-1, x.rests(10));
        check.due(-1, x.rests(-1));
        check.row(x);
        check.due(22, x.rests(0));
        check.row(x, 0, 0);
        check.due(3, x.rests(1));
        check.row(x, 0, 9);
        check.due(22, x.rests(3));
        check.row(x, 0, 9);
        check.due(1, x.rests(9));
        check.row(x, 9, 9);
        check.due(1, x.rests(4));
        check.row(x, 9, 9);
    }

    private static void years() {
        check.about("41 years");
        PanesOfTheDead x = Check.town("23", "a500r;b912s;a210u", "5b;9;4a", "022;101");
        check.due(-1, x.years(1, 0));
        check.due(-1, x.years(1, 61));
        check.due(-1, x.years(1, -1));
        check.row(x);
        // of seed 1 the upper halves of R are 16838, 38526, 10113, 50283, 63819, 38395, 55778, 40187, 48980, 4086, 2749,
        // 12767: PANE 0 hangs in ROOM 1, which sees THINGS 0 and 2; PANE 0 is BROKEN, PANE 2, PANE 2; PANE 1 hangs in ROOM 1
        check.due(2, x.years(1, 1));
        check.row(x, 0, 0);
        check.due(4, x.years(1, 2));
        check.row(x, 0, 1);
        check.due(10, x.years(1, 5));
        check.row(x, 0, 2);
        // without PANES there are no other DRAWS: 2, 2, 1, 3, 3
        PanesOfTheDead bare = Check.town("23", "a500r", "", "022");
        check.due(0, bare.years(1, 2));
        check.row(bare, 0, 0);
        check.due(0, bare.years(1, 5));
        check.row(bare, 1, 0);
        // without ROOMS there are no DRAWS for where a PANE hangs, but one for which is BROKEN
        PanesOfTheDead roomless = Check.town("23", "a500r", "5b", "");
        check.due(0, roomless.years(1, 3));
        check.row(roomless, 1, 0);
        check.due(0, roomless.years(1, 4));
        check.row(roomless, 1, 1);
        x.years(-7, 60);
        check.due(0, x.count(5));
        check.due(0, x.count(6));
        check.due(0, x.count(7));
        check.due(0, x.count(9));
        check.due(0, x.thing(0, 2));
    }
}
