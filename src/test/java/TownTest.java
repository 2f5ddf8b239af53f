import java.util.Collections;

/** Promises 1 to 12: the square, things, panes, rooms. */
public final class TownTest {
    private static final Check check = new Check();

    public static void main(String[] args) {
        newObject();
        sign();
        end();
        square();
        things();
        panes();
        rooms();
        ruleFaults();
        ruleValues();
        thing();
        pane();
        room();
        sheet();
        check.close();
    }

    private static String lines(int n, String line) {
        return String.join(";", Collections.nCopies(n, line));
    }

    private static void newObject() {
        check.about("1 a new object");
        PanesOfTheDead x = new PanesOfTheDead();
        check.due(-1, PanesOfTheDead.NONE);
        check.due(1, x.count(0));
        check.due(1, x.count(1));
        for (int what = 2; what <= 11; what++) check.due(0, x.count(what));
        check.row(x);
        check.due(1, x.dark(0, 0));
        PanesOfTheDead other = Check.town("23", "a500r", "5b", "022");
        check.due(1, other.count(2));
        check.due(0, x.count(2));
    }

    private static void sign() {
        check.about("2 sign");
        PanesOfTheDead x = new PanesOfTheDead();
        for (int n = 4; n <= 80; n += 4) check.due(n, x.sign(0x30303030));
        check.due(-1, x.sign(0));
        check.due(80, x.count(11));
        x.end(77);
        check.due(-1, x.sign(0));
        x.end(76);
        check.due(80, x.sign(0));
        x.end(0);
        check.due(4, x.sign(0x32330000));
        x.end(2);
        check.due(6, x.square());
        check.due(2, x.count(0));
        check.due(3, x.count(1));
        x.sign(0x3100FF7F);
        check.due(-2, x.square());
        x.sign(0xFF313131);
        check.due(-1, x.square());
    }

    private static void end() {
        check.about("3 end");
        PanesOfTheDead x = new PanesOfTheDead();
        check.yes(x.end(0));
        check.no(x.end(1));
        x.sign(0);
        check.no(x.end(5));
        check.no(x.end(-1));
        check.no(x.end(Integer.MIN_VALUE));
        check.due(4, x.count(11));
        check.yes(x.end(4));
        check.yes(x.end(3));
        check.due(3, x.count(11));
        check.no(x.end(4));
        check.yes(x.end(0));
        check.due(0, x.count(11));
    }

    private static void square() {
        check.about("4 square");
        PanesOfTheDead x = new PanesOfTheDead();
        check.due(36, Check.text(x, "66").square());
        check.due(0, x.count(11));
        check.due(6, Check.text(x, "16").square());
        check.due(1, x.count(0));
        check.due(6, x.count(1));
        String[] wrong = {"", "0", "7", "x1", "1", "10", "17", "111", "1234"};
        int[] at = {0, 0, 0, 0, 1, 1, 1, 2, 2};
        for (int i = 0; i < wrong.length; i++) check.due(-1 - at[i], Check.text(x, wrong[i]).square());

        x = Check.town("23", "a500r", "5b", "022");
        Check.text(x, "1").rule();
        x.hang(0, 0);
        x.ball(0);
        x.hours(3);
        x.keep(0);
        x.watched(0, 0, 1);
        check.due(-3, Check.text(x, "231").square());
        check.due(1, x.count(2));
        check.due(3, x.count(5));
        check.due(1, x.count(6));
        check.due(3, x.count(9));
        check.due(0, x.count(11));
        check.due(1, x.count(8));
        check.due(4, Check.text(x, "22").square());
        for (int what = 2; what <= 9; what++) check.due(0, x.count(what));
        check.no(x.again(0));
        check.due(-1, x.undo());
        check.row(x, 1);
        Check.text(x, "a900s").things();
        Check.text(x, "0a").panes();
        check.due(1, x.pane(0, 4));
        check.due(0, x.pane(0, 3));
        check.due(-1, x.pane(0, 2));
    }

    private static void things() {
        check.about("5 things");
        PanesOfTheDead x = Check.town("23", "", "", "");
        String[] wrong = {"i", "A", "a", "aa", "a5", "a52", "a50", "a503", "a500", "a500x", "a500rr", "a500r;",
            "a500r;;", "a500r,", "a500r;b", "a500r;b020s"};
        int[] at = {0, 0, 1, 1, 2, 2, 3, 3, 4, 4, 5, 6, 6, 5, 7, 8};
        for (int i = 0; i < wrong.length; i++) {
            check.due(-1 - at[i], Check.text(x, wrong[i]).things());
            check.due(0, x.count(2));
            check.due(0, x.count(11));
        }
        check.due(0, Check.text(x, "").things());
        check.due(2, Check.text(x, "h912u;c001s").things());
        check.due(1, Check.text(x, "a000d").things());
        check.due(3, x.count(2));
        check.due(7, x.thing(0, 0));
        check.due(9, x.thing(0, 1));
        check.due(5, x.thing(0, 2));
        check.due(0, x.thing(0, 3));
        check.due(1, x.thing(1, 2));
        check.due(4, x.thing(1, 3));
        check.due(2, x.thing(2, 3));
        check.due(-1 - 5 * 6, Check.text(x, lines(6, "a000s")).things());
        check.due(3, x.count(2));
        check.due(5, Check.text(x, lines(5, "b111l")).things());
        check.due(-1, Check.text(x, "a000s").things());
        check.due(-1, Check.text(x, "?").things());
        check.due(0, Check.text(x, "").things());
        check.due(8, x.count(2));
        check.due(3, x.thing(7, 3));

        x = Check.town("23", "", "", "");
        check.due(-48, Check.text(x, lines(8, "a000s") + ";").things());
        check.due(-48, Check.text(x, lines(8, "a000s") + "x").things());
        check.due(-48, Check.text(x, lines(9, "a000s")).things());
        check.due(-11, Check.text(x, lines(1, "a000s") + ";a000" + lines(7, "a000s")).things());
        check.due(8, Check.text(x, lines(8, "a000s")).things());
    }

    private static void panes() {
        check.about("6 panes");
        PanesOfTheDead x = Check.town("23", "", "", "");
        String[] wrong = {"a", ";", "5i", "5ba", "5aa", "5abca", "5;", "5;;", "5;a", "55", "5b5", "5bc;3ha"};
        int[] at = {0, 0, 1, 2, 2, 4, 2, 2, 2, 1, 2, 6};
        for (int i = 0; i < wrong.length; i++) {
            check.due(-1 - at[i], Check.text(x, wrong[i]).panes());
            check.due(0, x.count(3));
            check.due(0, x.count(11));
        }
        check.due(0, Check.text(x, "").panes());
        check.due(3, Check.text(x, "0abcdefgh;9;5bh").panes());
        check.due(255, x.pane(0, 1));
        check.due(0, x.pane(0, 0));
        check.due(9, x.pane(1, 0));
        check.due(0, x.pane(1, 1));
        check.due(130, x.pane(2, 1));
        check.due(-1 - 10, Check.text(x, lines(6, "1")).panes());
        check.due(3, x.count(3));
        check.due(5, Check.text(x, lines(5, "1")).panes());
        check.due(-1, Check.text(x, "1").panes());
        check.due(0, Check.text(x, "").panes());

        x = Check.town("23", "", "", "");
        check.due(-80, Check.text(x, lines(8, "5abcdefgh") + ";").panes());
        check.due(-80, Check.text(x, lines(8, "5abcdefgh") + "h").panes());
        check.due(-17, Check.text(x, lines(9, "5")).panes());
        check.due(-17, Check.text(x, lines(8, "5") + ";").panes());
        check.due(8, Check.text(x, lines(8, "5abcdefgh")).panes());
    }

    private static void rooms() {
        check.about("7 rooms");
        PanesOfTheDead x = Check.town("23", "", "", "");
        String[] wrong = {"2", "a", "0", "03", "00", "00a", "0000", "000;", "000;0", "000;2", "000;003;", "00;"};
        int[] at = {0, 0, 1, 1, 2, 2, 3, 4, 5, 4, 8, 2};
        for (int i = 0; i < wrong.length; i++) {
            check.due(-1 - at[i], Check.text(x, wrong[i]).rooms());
            check.due(0, x.count(4));
            check.due(0, x.count(11));
        }
        check.due(0, Check.text(x, "").rooms());
        check.due(2, Check.text(x, "129;010").rooms());
        check.due(5, x.room(0, 0));
        check.due(9, x.room(0, 1));
        check.due(1, x.room(1, 0));
        check.due(0, x.room(1, 1));
        check.due(-1 - 8, Check.text(x, lines(3, "000")).rooms());
        check.due(2, Check.text(x, lines(2, "000")).rooms());
        check.due(-1, Check.text(x, "000").rooms());
        check.due(4, x.count(4));

        x = Check.town("23", "", "", "");
        check.due(-16, Check.text(x, lines(4, "000") + ";").rooms());
        check.due(-16, Check.text(x, lines(4, "000") + "0").rooms());
        check.due(-16, Check.text(x, lines(5, "000")).rooms());
        check.due(4, Check.text(x, lines(4, "000")).rooms());
    }

    private static void ruleFaults() {
        check.about("8 rule");
        PanesOfTheDead x = Check.town("11", "d700s", "4dg", "");
        String[] wrong = {"z", "k+", "(", "()", ")", "k)", "1234", "12k", "k1", "kk", "k<l<s", "k<l=s", "k<(l<s", "k(",
            "+k", "*k", "k**l", "k--", "(((((k)))))", "1<", "k ", "k<l)", "(k<l<s)", "1=2+3=4", "-", "a"};
        int[] at = {0, 2, 1, 1, 0, 1, 3, 2, 1, 1, 3, 3, 6, 1, 0, 0, 2, 3, 4, 2, 1, 3, 4, 5, 1, 0};
        for (int i = 0; i < wrong.length; i++) check.due(-1 - at[i], Check.text(x, wrong[i]).rule());
        check.due(0, x.count(11));
        check.due(-1 - 40, Check.text(x, "k+".repeat(20)).rule());
        check.due(-1 - 40, Check.text(x, "k+".repeat(20) + "k").rule());
        check.due(-1 - 40, Check.text(x, "-".repeat(39) + "kk").rule());
        check.due(-1 - 40, Check.text(x, "1+".repeat(19) + "12" + "x").rule());
        check.due(-1 - 39, Check.text(x, "-".repeat(38) + "kk").rule());
        check.due(-1 - 4, Check.text(x, "k+k+" + "x".repeat(70)).rule());
        check.due(0, x.pane(0, 4));
        check.due(0, Check.text(x, "-".repeat(39) + "k").rule());
        check.due(1, x.pane(0, 4));
        check.due(0, Check.text(x, "((((k))))-3").rule());
        check.due(0, x.pane(0, 4));
        check.due(0, Check.text(x, "").rule());
        check.due(0, x.count(9));
    }

    /** The RULE has this value for the THING d with SHAME 7 and the PANE 4dg in HOUR 50, which is 2 of 24. */
    private static void value(PanesOfTheDead x, String expression, int value) {
        check.due(0, Check.text(x, "(" + expression + ")=" + (value < 0 ? "-" : "") + Math.abs(value)).rule());
        check.due(1, x.pane(0, 4));
        check.due(0, Check.text(x, "(" + expression + ")-" + (value < 0 ? "-" : "") + Math.abs(value)).rule());
        check.due(0, x.pane(0, 4));
    }

    private static void ruleValues() {
        check.about("the RULE");
        PanesOfTheDead x = Check.town("11", "d700s;a400s;a500s", "4dg", "");
        check.due(2, x.pane(0, 4));
        x.hours(50);
        Check.text(x, "11").square();
        Check.text(x, "d700s").things();
        Check.text(x, "4dg").panes();
        x.hours(50);
        value(x, "k", 3);
        value(x, "s", 7);
        value(x, "l", 4);
        value(x, "h", 1);
        value(x, "n", 2);
        value(x, "t", 2);
        value(x, "0", 0);
        value(x, "999", 999);
        value(x, "007", 7);
        value(x, "10-4-3", 3);
        value(x, "100/7/2", 7);
        value(x, "-7/2", -3);
        value(x, "7/-2", -3);
        value(x, "5/0", 0);
        value(x, "0/0", 0);
        value(x, "2+3*4", 14);
        value(x, "2*3+4", 10);
        value(x, "7/2*2", 6);
        value(x, "--5", 5);
        value(x, "3---5", -2);
        value(x, "2*-3", -6);
        value(x, "1+2<4", 1);
        value(x, "4<4", 0);
        value(x, "5>4", 1);
        value(x, "4>4", 0);
        value(x, "4=4", 1);
        value(x, "2<(3<4)", 0);
        value(x, "-(2+3)*2", -10);
        value(x, "999*999*999*9/999/999", 383);
        check.due(0, Check.text(x, "512*512*512*16").rule());
        check.due(1, x.pane(0, 4));
        check.due(0, Check.text(x, "512*512*512*32").rule());
        check.due(0, x.pane(0, 4));
        check.due(0, Check.text(x, "512*512*512*16/-1<0").rule());
        check.due(1, x.pane(0, 4));
        check.due(0, Check.text(x, "0").rule());
        x.ball(0);
        check.due(1, x.pane(0, 4));
        check.due(0, Check.text(x, "").rule());
        x.undo();
        check.due(0, x.pane(0, 4));
    }

    private static PanesOfTheDead smallTown() {
        return Check.town("23", "a500r;b912s;a210u", "5b;9;4a", "022;101");
    }

    private static void thing() {
        check.about("9 thing");
        PanesOfTheDead x = smallTown();
        check.due(1, x.thing(1, 0));
        check.due(9, x.thing(1, 1));
        check.due(5, x.thing(1, 2));
        check.due(4, x.thing(1, 3));
        check.due(0, x.thing(0, 4));
        x.hang(0, 0);
        x.hang(1, 1);
        check.due(3, x.thing(0, 4));
        check.due(0, x.thing(1, 4));
        check.due(2, x.thing(2, 4));
        check.none(() -> x.thing(3, 0));
        check.none(() -> x.thing(-1, 0));
        check.none(() -> x.thing(0, 5));
        check.none(() -> x.thing(0, -1));
        check.none(() -> x.thing(Integer.MAX_VALUE, Integer.MIN_VALUE));
    }

    private static void pane() {
        check.about("10 pane");
        PanesOfTheDead x = smallTown();
        check.due(5, x.pane(0, 0));
        check.due(2, x.pane(0, 1));
        check.due(-1, x.pane(0, 2));
        check.due(0, x.pane(0, 3));
        check.due(5, x.pane(0, 4));
        check.due(7, x.pane(1, 4));
        check.due(0, x.pane(2, 4));
        x.hang(2, 1);
        x.ball(2);
        check.due(1, x.pane(2, 2));
        check.due(1, x.pane(2, 3));
        check.due(7, x.pane(2, 4));
        check.none(() -> x.pane(3, 0));
        check.none(() -> x.pane(-1, 0));
        check.none(() -> x.pane(0, 5));
        check.none(() -> x.pane(0, -1));
    }

    private static void room() {
        check.about("11 room");
        PanesOfTheDead x = smallTown();
        check.due(2, x.room(0, 0));
        check.due(2, x.room(0, 1));
        check.due(0, x.room(0, 2));
        check.due(0, x.room(0, 3));
        check.due(3, x.room(0, 4));
        check.due(5, x.room(1, 4));
        x.hang(0, 0);
        x.hang(2, 0);
        check.due(5, x.room(0, 2));
        check.due(1, x.room(0, 3));
        x.hang(1, 0);
        check.due(3, x.room(0, 3));
        x.ball(1);
        check.due(3, x.room(0, 3));
        check.none(() -> x.room(2, 0));
        check.none(() -> x.room(-1, 0));
        check.none(() -> x.room(0, 5));
        check.none(() -> x.room(0, -1));
    }

    private static void shames(PanesOfTheDead x, int a, int b, int c) {
        check.due(a, x.thing(0, 1));
        check.due(b, x.thing(1, 1));
        check.due(c, x.thing(2, 1));
    }

    private static void sheet() {
        check.about("12 sheet");
        PanesOfTheDead x = smallTown();
        x.hours(1);
        check.due(-1, x.sheet(4, 0, 0, 0));
        check.due(-1, x.sheet(-1, 0, 0, 0));
        check.due(-1, x.sheet(0, 9, 1, 1));
        check.due(-1, x.sheet(3, 9, 1, 1));
        check.due(-1, x.sheet(4, -1, 1, 1));
        check.due(-2, x.sheet(0, -1, 1, 1));
        check.due(-2, x.sheet(1, -1, 1, 1));
        check.due(-2, x.sheet(2, Integer.MIN_VALUE, 1, 1));
        shames(x, 5, 9, 2);
        check.due(9, x.sheet(2, 3, 2, 1));
        shames(x, 2, 3, 4);
        check.due(7, x.sheet(2, 2, 3, 1));
        shames(x, 3, 4, 0);
        check.due(9, x.sheet(2, 8, 3, 0));
        check.due(0, x.sheet(2, 0, 3, 0));
        shames(x, 0, 0, 0);
        check.due(5 + 9 + 9, x.sheet(2, 3, 5, 4));
        check.due(5, x.sheet(0, 3, 5, 123));
        shames(x, 5, 0, 0);
        check.due(1 + 2 + 3, x.sheet(0, 3, 257, 1));
        check.due(27, x.sheet(1, 3, 257, 1));
        check.due(0, x.sheet(1, 3, 40000, 1));
        check.due(4 + 5 + 6, x.sheet(1, 3, 65540, 65537));
        check.due(27, x.sheet(2, 3, 40000, 1));
        check.due(9, x.sheet(2, 2, Integer.MAX_VALUE, 1));
        shames(x, 9, 0, 0);
        check.due(6, x.sheet(2, 3, 1, 1));
        check.due(-3, x.sheet(3, -5, 1, 1));
        shames(x, 0, 0, 0);
        check.due(1, x.count(9));
        check.due(0, new PanesOfTheDead().sheet(2, 8, 5, 1));
    }
}
