import java.util.Collections;

/** The edges that promises 1 to 12 name, each beside its words. */
public final class TownEdgesTest {
    private static final Check check = new Check();

    public static void main(String[] args) {
        newObject();
        sign();
        end();
        squareAnew();
        squareForgets();
        squareFaults();
        thingFaults();
        thingsFull();
        paneFaults();
        panesFull();
        roomFaults();
        roomsFull();
        rule();
        thing();
        pane();
        room();
        sheetValues();
        sheetEdges();
        check.promisesQuoted(1, 12);
        check.close();
    }

    private static String lines(int n, String line) {
        return String.join(";", Collections.nCopies(n, line));
    }

    private static void newObject() {
        check.words(1, "A SQUARE of one FIELD; no THINGS, no PANES, no ROOMS.");
        PanesOfTheDead x = new PanesOfTheDead();
        check.due(1, x.count(0));
        check.due(1, x.count(1));
        for (int what = 2; what <= 11; what++) check.due(0, x.count(what));
        check.due(1, x.dark(7, 9));
        check.due(0, x.steals(0, 0, 0, 0));
        check.due(-1, x.steals(0, 1, 0, 0));
        check.none(() -> x.thing(0, 0));
        check.none(() -> x.pane(0, 0));
        check.none(() -> x.room(0, 0));
        check.due(-1, x.undo());
        check.no(x.again(0));
        PanesOfTheDead other = new PanesOfTheDead();
        check.due(1, Check.text(other, "a000s").things());
        check.due(0, x.count(2));
    }

    private static void sign() {
        check.words(2, "Four signs come behind THE TEXT, of v the highest byte first: how many it has.");
        PanesOfTheDead x = new PanesOfTheDead();
        check.due(4, x.sign(0x61353030));
        check.due(8, x.sign(0x733B6836));
        check.due(12, x.sign(0x30307530));
        check.yes(x.end(11));
        check.due(2, x.things());
        check.due(0, x.thing(0, 0));
        check.due(5, x.thing(0, 1));
        check.due(7, x.thing(1, 0));
        check.due(6, x.thing(1, 1));
        check.due(4, x.sign(0));
        check.due(-1, x.square());
        check.due(4, x.sign(0x31000000));
        check.due(-2, x.square());
        check.due(4, x.sign(0xB1313131));
        check.due(-1, x.square());
        check.due(4, x.sign(-1));
        check.due(8, x.sign(Integer.MIN_VALUE));
        check.due(8, x.count(11));
        x.end(2);
        check.due(6, x.sign(0x31313131));
        check.words(2, "Refused: there would be more than 80.");
        PanesOfTheDead y = new PanesOfTheDead();
        for (int n = 4; n <= 80; n += 4) check.due(n, y.sign(0x30303030));
        check.due(-1, y.sign(0x30303030));
        check.due(80, y.count(11));
        for (int n = 79; n >= 77; n--) {
            check.yes(y.end(n));
            check.due(-1, y.sign(0x30303030));
            check.due(n, y.count(11));
        }
        check.yes(y.end(76));
        check.due(80, y.sign(0x30303030));
    }

    private static void end() {
        check.words(3, "THE TEXT has its first n signs alone: true");
        PanesOfTheDead x = new PanesOfTheDead();
        check.yes(x.end(0));
        x.sign(0x32333435);
        check.yes(x.end(4));
        check.due(4, x.count(11));
        check.yes(x.end(3));
        check.yes(x.end(2));
        check.due(6, x.square());
        x.sign(0x32333435);
        check.yes(x.end(0));
        check.due(0, x.count(11));
        check.words(3, "false if it has not so many, or n is below 0");
        check.no(x.end(1));
        x.sign(0x32333435);
        check.no(x.end(5));
        check.no(x.end(80));
        check.no(x.end(Integer.MAX_VALUE));
        check.no(x.end(-1));
        check.no(x.end(Integer.MIN_VALUE));
        check.due(4, x.count(11));
        x.end(2);
        check.no(x.end(3));
        check.due(6, x.square());
        check.no(x.end(1));
    }

    private static void squareAnew() {
        check.words(4, "THE TEXT is THE SQUARE anew: how many FIELDS");
        PanesOfTheDead x = new PanesOfTheDead();
        check.due(1, Check.text(x, "11").square());
        check.due(36, Check.text(x, "66").square());
        check.due(6, Check.text(x, "16").square());
        check.due(1, x.count(0));
        check.due(6, x.count(1));
        check.due(6, Check.text(x, "61").square());
        check.due(6, x.count(0));
        check.due(1, x.count(1));
        check.due(0, x.count(11));
    }

    private static void squareForgets() {
        check.words(4, "there are no THINGS, no PANES, no ROOMS, HOUR is 0");
        PanesOfTheDead x = Twins.grown();
        check.due(4, Check.text(x, "22").square());
        for (int what = 2; what <= 7; what++) check.due(0, x.count(what));
        check.none(() -> x.thing(0, 0));
        check.none(() -> x.pane(0, 0));
        check.none(() -> x.room(0, 0));
        check.words(4, "nothing can be undone, nothing is kept, nothing was watched");
        check.due(0, x.count(9));
        check.due(-1, x.undo());
        for (int i = 0; i < 3; i++) check.no(x.again(i));
        check.due(0, x.count(8));
        check.due(2560, x.laws());
        PanesOfTheDead same = Twins.grown();
        check.due(6, Check.text(same, "23").square());
        for (int what = 2; what <= 9; what++) check.due(0, same.count(what));
        check.no(same.again(1));
    }

    private static void squareFaults() {
        PanesOfTheDead x = Check.town("23", "", "", "");
        check.words(4, "-1 - p: the sign at p can't stand there");
        for (char sign = 0; sign < 256; sign++) {
            if (sign >= '1' && sign <= '6') continue;
            PanesOfTheDead y = new PanesOfTheDead();
            check.due(-1, Check.text(y, "" + sign + "1").square());
            check.due(-2, Check.text(y, "1" + sign).square());
        }
        check.words(4, "its end, if it ends too early");
        check.due(-1, Check.text(x, "").square());
        check.due(-2, Check.text(x, "3").square());
        check.words(4, "a third sign: at it");
        check.due(-3, Check.text(x, "111").square());
        check.due(-3, Check.text(x, "11" + "1".repeat(78)).square());
        check.due(-3, Check.text(x, "11;").square());
        check.due(2, x.count(0));
        check.due(3, x.count(1));
        check.due(0, x.count(11));
    }

    /** Each text is refused at its sign, and nothing of it comes. */
    private static void thingFault(PanesOfTheDead x, int at, String text) {
        int had = x.count(2);
        check.due(-1 - at, Check.text(x, text).things());
        check.due(had, x.count(2));
        check.due(0, x.count(11));
    }

    private static void thingFaults() {
        PanesOfTheDead x = Check.town("23", "", "", "");
        check.words(5, "(an empty one: nothing): how many LINES.");
        check.due(0, Check.text(x, "").things());
        check.due(0, x.count(2));
        check.words(5, "the sign at p can't stand there");
        thingFault(x, 0, "i000s");
        thingFault(x, 0, "A000s");
        thingFault(x, 0, ";a000s");
        thingFault(x, 1, "aa00s");
        thingFault(x, 2, "a0a0s");
        thingFault(x, 3, "a00as");
        thingFault(x, 4, "a000x");
        thingFault(x, 4, "a000U");
        thingFault(x, 4, "a0000");
        thingFault(x, 5, "a000sa000s");
        thingFault(x, 5, "a000s,a000s");
        thingFault(x, 6, "a000s;;");
        check.words(5, "its end, if it ends too early");
        for (int at = 1; at <= 4; at++) thingFault(x, at, "a000s".substring(0, at));
        for (int at = 6; at <= 10; at++) thingFault(x, at, "a000s;a000s".substring(0, at));
        check.words(5, "a ROW or COLUMN that THE SQUARE has not: at it");
        thingFault(x, 2, "a020s");
        thingFault(x, 2, "a090s");
        thingFault(x, 3, "a003s");
        thingFault(x, 3, "a009s");
        thingFault(x, 2, "a023s");
        check.words(5, "Nothing of it comes, if a LINE can't.");
        thingFault(x, 8, "a000s;a020s");
        thingFault(x, 15, "a000s;b111u;a003s");
        check.due(1, Check.text(x, "h912l").things());
        check.due(7, x.thing(0, 0));
        check.due(5, x.thing(0, 2));
    }

    private static void thingsFull() {
        PanesOfTheDead x = Check.town("11", "", "", "");
        check.words(5, "47, if it has more and the first 47 could go on or end");
        thingFault(x, 47, lines(8, "a000s") + ";");
        thingFault(x, 47, lines(8, "a000s") + "?");
        thingFault(x, 47, lines(8, "a000s") + ";a000s;" + "?".repeat(26));
        thingFault(x, 46, lines(7, "a000s") + ";a000;a");
        thingFault(x, 4, "a000?" + lines(8, "a000s"));
        check.due(8, Check.text(x, lines(8, "a000s")).things());
        check.words(5, "the first sign of a LINE for which there is no room");
        thingFault(x, 0, "a000s");
        thingFault(x, 0, "?");
        check.due(0, Check.text(x, "").things());
        PanesOfTheDead y = Check.town("11", "a000s;b000s;c000s", "", "");
        thingFault(y, 30, lines(6, "a000s"));
        thingFault(y, 30, lines(5, "a000s") + ";");
        thingFault(y, 30, lines(5, "a000s") + ";?");
        thingFault(y, 28, lines(4, "a000s") + ";a000?;a000s");
        thingFault(y, 30, lines(8, "a000s") + "?");
        check.due(5, Check.text(y, lines(5, "d000s")).things());
        check.due(8, y.count(2));
        check.due(2, y.thing(2, 0));
        check.due(3, y.thing(7, 0));
    }

    private static void paneFault(PanesOfTheDead x, int at, String text) {
        int had = x.count(3);
        check.due(-1 - at, Check.text(x, text).panes());
        check.due(had, x.count(3));
        check.due(0, x.count(11));
    }

    private static void paneFaults() {
        PanesOfTheDead x = Check.town("23", "", "", "");
        check.words(6, "(an empty one: nothing): how many LINES.");
        check.due(0, Check.text(x, "").panes());
        check.due(0, x.count(3));
        check.words(6, "the sign at p can't stand there");
        paneFault(x, 0, "a");
        paneFault(x, 0, ";5");
        paneFault(x, 0, "-5");
        paneFault(x, 1, "55");
        paneFault(x, 1, "5i");
        paneFault(x, 1, "5A");
        paneFault(x, 2, "5a5");
        paneFault(x, 2, "5;;5");
        paneFault(x, 2, "5;a");
        check.words(6, "its end, if it ends too early");
        paneFault(x, 2, "5;");
        paneFault(x, 5, "5abc;");
        check.words(6, "a letter that is no more than the one ahead: at it");
        paneFault(x, 2, "5aa");
        paneFault(x, 2, "5ba");
        paneFault(x, 3, "5aha");
        paneFault(x, 9, "5abcdefghh");
        paneFault(x, 5, "5h;5ba");
        check.words(6, "Nothing of it comes, if a LINE can't.");
        paneFault(x, 4, "5;5ax");
        check.due(2, Check.text(x, "5h;5a").panes());
        check.due(128, x.pane(0, 1));
        check.due(1, x.pane(1, 1));
    }

    private static void panesFull() {
        PanesOfTheDead x = Check.town("11", "", "", "");
        check.words(6, "79, if it has more and the first 79 could go on or end");
        paneFault(x, 79, lines(8, "5abcdefgh") + ";");
        paneFault(x, 79, lines(8, "5abcdefgh") + "?");
        paneFault(x, 79, lines(8, "5abcdefgh") + "5");
        paneFault(x, 78, lines(7, "5abcdefgh") + ";5abcdefg?;");
        check.due(8, Check.text(x, lines(8, "5abcdefgh")).panes());
        check.words(6, "the first sign of a LINE for which there is no room");
        paneFault(x, 0, "5");
        paneFault(x, 0, "?");
        check.due(0, Check.text(x, "").panes());
        PanesOfTheDead y = Check.town("11", "", "", "");
        paneFault(y, 16, lines(9, "5"));
        paneFault(y, 16, lines(8, "5") + ";");
        paneFault(y, 16, lines(8, "5") + ";?");
        paneFault(y, 16, lines(40, "5"));
        paneFault(y, 15, lines(8, "5") + "?");
        check.due(7, Check.text(y, lines(7, "5")).panes());
        paneFault(y, 2, "5;5");
        check.due(1, Check.text(y, "6h").panes());
        check.due(6, y.pane(7, 0));
    }

    private static void roomFault(PanesOfTheDead x, int at, String text) {
        int had = x.count(4);
        check.due(-1 - at, Check.text(x, text).rooms());
        check.due(had, x.count(4));
        check.due(0, x.count(11));
    }

    private static void roomFaults() {
        PanesOfTheDead x = Check.town("23", "", "", "");
        check.words(7, "(an empty one: nothing): how many LINES.");
        check.due(0, Check.text(x, "").rooms());
        check.due(0, x.count(4));
        check.words(7, "the sign at p can't stand there");
        roomFault(x, 0, "a00");
        roomFault(x, 0, ";000");
        roomFault(x, 1, "0a0");
        roomFault(x, 2, "00a");
        roomFault(x, 2, "00;");
        roomFault(x, 3, "0000");
        roomFault(x, 4, "000;;");
        check.words(7, "its end, if it ends too early");
        for (int at = 1; at <= 2; at++) roomFault(x, at, "000".substring(0, at));
        for (int at = 4; at <= 6; at++) roomFault(x, at, "000;000".substring(0, at));
        check.words(7, "a ROW or COLUMN that THE SQUARE has not: at it");
        roomFault(x, 0, "200");
        roomFault(x, 0, "930");
        roomFault(x, 1, "030");
        roomFault(x, 1, "190");
        roomFault(x, 5, "129;030");
        check.words(7, "Nothing of it comes, if a LINE can't.");
        roomFault(x, 4, "000;200");
        check.due(2, Check.text(x, "129;000").rooms());
        check.due(5, x.room(0, 0));
        check.due(9, x.room(0, 1));
        check.due(0, x.room(1, 0));
    }

    private static void roomsFull() {
        PanesOfTheDead x = Check.town("11", "", "", "");
        check.words(7, "15, if it has more and the first 15 could go on or end");
        roomFault(x, 15, lines(4, "000") + ";");
        roomFault(x, 15, lines(4, "000") + "?");
        roomFault(x, 15, lines(5, "000"));
        roomFault(x, 15, lines(20, "000"));
        roomFault(x, 14, lines(3, "000") + ";00?;");
        check.due(4, Check.text(x, lines(4, "000")).rooms());
        check.words(7, "the first sign of a LINE for which there is no room");
        roomFault(x, 0, "000");
        roomFault(x, 0, "?");
        check.due(0, Check.text(x, "").rooms());
        PanesOfTheDead y = Check.town("11", "", "", "001");
        roomFault(y, 12, lines(4, "000"));
        roomFault(y, 12, lines(3, "000") + ";");
        roomFault(y, 12, lines(6, "000"));
        check.due(3, Check.text(y, lines(3, "002")).rooms());
        check.due(1, y.room(0, 1));
        check.due(2, y.room(3, 1));
    }

    private static void rule() {
        PanesOfTheDead x = Check.town("11", "a900s", "0a", "");
        check.words(8, "THE TEXT is THE RULE (an empty one: none): 0.");
        check.due(0, Check.text(x, "1").rule());
        check.due(1, x.pane(0, 4));
        check.due(0, x.count(11));
        check.due(0, Check.text(x, "").rule());
        check.due(0, x.pane(0, 4));
        check.due(0, Check.text(x, "1").rule());
        check.words(8, "the sign at p can't stand there");
        String[] wrong = {"x", "1x", "(x", "1+x", "1 ", " 1", "1=2=3", "(((((", "1234", "1;"};
        int[] at = {0, 1, 1, 2, 1, 0, 3, 4, 3, 1};
        for (int i = 0; i < wrong.length; i++) check.due(-1 - at[i], Check.text(x, wrong[i]).rule());
        check.words(8, "its end, if it ends too early");
        String[] early = {"1+", "-", "(", "((1)", "1<", "(1<2", "1*(2-"};
        for (String s : early) check.due(-1 - s.length(), Check.text(x, s).rule());
        check.due(-41, Check.text(x, "1+".repeat(20)).rule());
        check.due(-41, Check.text(x, "(" + "1+".repeat(19) + "1").rule());
        check.words(8, "40, if it has more and the first 40 could go on or end");
        check.due(-41, Check.text(x, "1+".repeat(20) + "1").rule());
        check.due(-41, Check.text(x, "0+".repeat(19) + "01" + "+").rule());
        check.due(-41, Check.text(x, "0+".repeat(19) + "01" + "?").rule());
        check.due(-41, Check.text(x, "-".repeat(80)).rule());
        check.due(-40, Check.text(x, "1+".repeat(19) + "1?1").rule());
        check.due(-40, Check.text(x, "1+".repeat(19) + "1)1").rule());
        check.due(1, x.pane(0, 4));
        check.due(0, x.count(11));
        check.due(0, Check.text(x, "0+".repeat(19) + "00").rule());
        check.due(0, x.pane(0, 4));
    }

    private static PanesOfTheDead town() {
        return Check.town("23", "a500r;b912s;a210u", "5b;9;4a", "022;101");
    }

    private static void thing() {
        check.words(9, "what 0: KIND, 1: SHAME, 2: FIELD, 3: HEADING, 4: ROOMS that see it (bits)");
        PanesOfTheDead x = town();
        int[] due = {1, 9, 5, 4, 0};
        for (int what = 0; what <= 4; what++) check.due(due[what], x.thing(1, what));
        x.hang(1, 0);
        check.due(1, x.thing(1, 4));
        x.hang(0, 1);
        check.due(3, x.thing(0, 4));
        check.due(2, x.thing(2, 4));
        check.words(9, "NoSuchElementException: none such, another what");
        for (int none : new int[] {-1, 3, 7, 8, Integer.MIN_VALUE, Integer.MAX_VALUE}) {
            for (int what = 0; what <= 4; what++) {
                int w = what;
                check.none(() -> x.thing(none, w));
            }
        }
        for (int what : new int[] {-1, 5, Integer.MIN_VALUE, Integer.MAX_VALUE}) {
            check.none(() -> x.thing(0, what));
            check.none(() -> x.thing(3, what));
        }
    }

    private static void pane() {
        check.words(10, "what 0: LIMIT, 1: HIDES (bits), 2: its ROOM (NONE), 3: 1 if it is BROKEN, 4: THINGS that it lets through");
        PanesOfTheDead x = town();
        int[] first = {5, 2, -1, 0, 5};
        for (int what = 0; what <= 4; what++) check.due(first[what], x.pane(0, what));
        x.hang(0, 1);
        x.ball(0);
        int[] then = {5, 2, 1, 1, 7};
        for (int what = 0; what <= 4; what++) check.due(then[what], x.pane(0, what));
        x.takes(0);
        check.due(-1, x.pane(0, 2));
        check.words(10, "NoSuchElementException: likewise.");
        for (int none : new int[] {-1, 3, 7, 8, Integer.MIN_VALUE, Integer.MAX_VALUE}) {
            for (int what = 0; what <= 4; what++) {
                int w = what;
                check.none(() -> x.pane(none, w));
            }
        }
        for (int what : new int[] {-1, 5, Integer.MIN_VALUE, Integer.MAX_VALUE}) {
            check.none(() -> x.pane(0, what));
            check.none(() -> x.pane(3, what));
        }
    }

    private static void room() {
        check.words(11, "2: its PANES (bits), 3: THINGS that it sees (bits), 4: THINGS that are no farther than RANGE (bits)");
        PanesOfTheDead x = town();
        int[] first = {2, 2, 0, 0, 3};
        for (int what = 0; what <= 4; what++) check.due(first[what], x.room(0, what));
        x.hang(0, 0);
        x.hang(2, 0);
        int[] then = {2, 2, 5, 1, 3};
        for (int what = 0; what <= 4; what++) check.due(then[what], x.room(0, what));
        check.words(11, "NoSuchElementException: likewise.");
        for (int none : new int[] {-1, 2, 3, 4, Integer.MIN_VALUE, Integer.MAX_VALUE}) {
            for (int what = 0; what <= 4; what++) {
                int w = what;
                check.none(() -> x.room(none, w));
            }
        }
        for (int what : new int[] {-1, 5, Integer.MIN_VALUE, Integer.MAX_VALUE}) {
            check.none(() -> x.room(0, what));
            check.none(() -> x.room(2, what));
        }
    }

    private static void shames(PanesOfTheDead x, int... due) {
        for (int i = 0; i < due.length; i++) check.due(due[i], x.thing(i, 1));
    }

    private static void sheetValues() {
        PanesOfTheDead x = town();
        check.words(12, "bytes (kind 0), shorts (1), ints (2) of n entries f, f + step, ..");
        for (int kind = 0; kind <= 2; kind++) {
            check.due(1 + 4 + 7, x.sheet(kind, 3, 1, 3));
            shames(x, 1, 4, 7);
            check.due(9 + 7 + 5, x.sheet(kind, 3, 9, -2));
            shames(x, 9, 7, 5);
        }
        check.words(12, "of bytes, shorts the lowest bits, with their sign");
        check.due(3 + 4 + 5, x.sheet(0, 3, 256 + 3, 1));
        check.due(9 + 0 + 0, x.sheet(0, 3, 127, 1));
        shames(x, 9, 0, 0);
        check.due(0 + 0 + 1, x.sheet(0, 3, 255, 1));
        shames(x, 0, 0, 1);
        check.due(9, x.sheet(1, 3, 32767, 1));
        shames(x, 9, 0, 0);
        check.due(0 + 0 + 1, x.sheet(1, 3, 65535, 1));
        check.due(9 + 9 + 9, x.sheet(1, 3, 255, 1));
        check.due(9 + 9 + 9, x.sheet(2, 3, 65535, 1));
        check.due(9, x.sheet(2, 2, Integer.MAX_VALUE, 1));
        shames(x, 9, 0, 0);
        check.words(12, "put to 0 .. 9");
        for (int kind = 0; kind <= 2; kind++) {
            check.due(0 + 0 + 1, x.sheet(kind, 3, -1, 1));
            shames(x, 0, 0, 1);
            check.due(8 + 9 + 9, x.sheet(kind, 3, 8, 1));
            shames(x, 8, 9, 9);
        }
    }

    private static void sheetEdges() {
        PanesOfTheDead x = town();
        check.words(12, "those behind it have 0: the sum of all");
        for (int kind = 0; kind <= 2; kind++) {
            check.due(5, x.sheet(kind, 1, 5, 1));
            shames(x, 5, 0, 0);
            check.due(6, x.sheet(kind, 3, 1, 1));
            check.due(0, x.sheet(kind, 0, 5, 1));
            shames(x, 0, 0, 0);
            check.due(6, x.sheet(kind, 8, 1, 1));
            shames(x, 1, 2, 3);
        }
        PanesOfTheDead full = Check.town("11", lines(8, "a900s"), "", "");
        check.due(1 + 2 + 3 + 4 + 5 + 6 + 7 + 8, full.sheet(2, 8, 1, 1));
        check.due(28, full.sheet(2, 7, 1, 1));
        shames(full, 1, 2, 3, 4, 5, 6, 7, 0);
        check.words(12, "-2: n below 0 (of kinds 0 .. 2; nothing changes)");
        for (int kind = 0; kind <= 2; kind++) {
            check.due(-2, x.sheet(kind, -1, 5, 1));
            check.due(-2, x.sheet(kind, Integer.MIN_VALUE, 5, 1));
        }
        shames(x, 1, 2, 3);
        check.words(12, "-3: missing (all 0)");
        check.due(-3, x.sheet(3, 0, 5, 1));
        shames(x, 0, 0, 0);
        for (int n : new int[] {8, -1, Integer.MIN_VALUE}) {
            x.sheet(2, 3, 1, 1);
            check.due(-3, x.sheet(3, n, 5, 1));
            shames(x, 0, 0, 0);
        }
        check.words(12, "NONE: another kind, n above 8 (these first)");
        x.sheet(2, 3, 1, 1);
        for (int kind : new int[] {-1, 4, Integer.MIN_VALUE, Integer.MAX_VALUE}) {
            check.due(-1, x.sheet(kind, 3, 5, 1));
            check.due(-1, x.sheet(kind, -1, 5, 1));
        }
        for (int kind = 0; kind <= 3; kind++) {
            check.due(-1, x.sheet(kind, 9, 5, 1));
            check.due(-1, x.sheet(kind, Integer.MAX_VALUE, 5, 1));
        }
        shames(x, 1, 2, 3);
    }
}
