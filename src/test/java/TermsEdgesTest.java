import java.util.Collections;

/** The edges that the Terms name: sizes, the rule's parts, what is seen, an hour, the ROW, refused calls. */
public final class TermsEdgesTest {
    private static final Check check = new Check();

    public static void main(String[] args) {
        calls();
        squares();
        fields();
        things();
        panes();
        rooms();
        eachOneMore();
        ruleSigns();
        comparisons();
        sums();
        products();
        negatives();
        numbers();
        brackets();
        names();
        ints();
        ranges();
        hour();
        rowStays();
        rowKinds();
        questions();
        refusedTown();
        refusedActs();
        refusedQuestions();
        refusedTexts();
        check.promisesQuoted(0, 0);
        check.close();
    }

    private static void words(String said) {
        check.words(0, said);
    }

    private static String lines(int n, String line) {
        return String.join(";", Collections.nCopies(n, line));
    }

    private static void calls() {
        words("An object is used for at most 512 calls after it has been made");
        PanesOfTheDead x = new PanesOfTheDead();
        for (int call = 1; call <= 512; call++) check.due(60 * call, x.hours(60));
        PanesOfTheDead y = Check.town("11", "a000s", "9", "000");
        for (int hour = 24; hour < 24 * 400; hour += 24) y.hours(24);
        Check.text(y, "t=0").rule();
        check.due(1, y.pane(0, 4));
    }

    private static void squares() {
        words("ROWS and COLUMNS, 1 to 6 each (at first 1 and 1)");
        PanesOfTheDead x = new PanesOfTheDead();
        check.due(1, x.count(0));
        check.due(1, x.count(1));
        for (int rows = 1; rows <= 6; rows++) {
            for (int columns = 1; columns <= 6; columns++) {
                check.due(rows * columns, Check.text(x, "" + rows + columns).square());
                check.due(rows, x.count(0));
                check.due(columns, x.count(1));
            }
        }
        words("told by a text of two digits (1 .. 6)");
        PanesOfTheDead y = Check.town("34", "", "", "");
        check.due(-1, Check.text(y, "01").square());
        check.due(-1, Check.text(y, "71").square());
        check.due(-2, Check.text(y, "10").square());
        check.due(-2, Check.text(y, "17").square());
        check.due(3, y.count(0));
        check.due(4, y.count(1));
    }

    private static void fields() {
        words("FIELDS by rows, from 0 on");
        PanesOfTheDead x = Check.town("23", "a000s;a002s;a010s;a012s", "", "");
        check.due(0, x.thing(0, 2));
        check.due(2, x.thing(1, 2));
        check.due(3, x.thing(2, 2));
        check.due(5, x.thing(3, 2));
        check.due(5, Check.town("61", "a050s", "", "").thing(0, 2));
        check.due(5, Check.town("16", "a005s", "", "").thing(0, 2));
        check.due(35, Check.town("66", "a055s", "", "").thing(0, 2));
        words("headings 0 up, 1 right, 2 down, 3 left, 4 none");
        PanesOfTheDead y = Check.town("33", "a011u;a011r;a011d;a011l;a011s", "", "");
        int[] behind = {1, 5, 7, 3, 4};
        for (int i = 0; i < 5; i++) check.due(i, y.thing(i, 3));
        y.hours(1);
        for (int i = 0; i < 5; i++) check.due(behind[i], y.thing(i, 2));
    }

    private static void things() {
        words("THINGS 0 .. (at most 8)");
        PanesOfTheDead x = Check.town("11", lines(8, "a000s"), "", "");
        check.due(8, x.count(2));
        check.due(0, x.thing(7, 0));
        check.none(() -> x.thing(8, 0));
        check.due(-1, Check.text(x, "a000s").things());
        check.due(8, x.count(2));
        words("KIND a .. h (0 .. 7), SHAME 0 .. 9, a FIELD, a HEADING");
        PanesOfTheDead y = Check.town("11", "a000s;h900s", "", "");
        check.due(0, y.thing(0, 0));
        check.due(0, y.thing(0, 1));
        check.due(7, y.thing(1, 0));
        check.due(9, y.thing(1, 1));
        check.due(-1, Check.text(y, "`000s").things());
        check.due(-1, Check.text(y, "i000s").things());
        check.due(-2, Check.text(y, "a/00s").things());
        check.due(-2, Check.text(y, "a:00s").things());
        words("They are told by a text of at most 47 signs");
        PanesOfTheDead z = Check.town("11", "", "", "");
        check.due(-48, Check.text(z, lines(8, "a000s") + " ").things());
        check.due(8, Check.text(z, lines(8, "a000s")).things());
        words("a letter u r d l s (HEADING 0 .. 4)");
        PanesOfTheDead w = Check.town("11", "", "", "");
        for (char sign = 'a'; sign <= 'z'; sign++) {
            boolean heading = "urdls".indexOf(sign) >= 0;
            check.due(heading ? 1 : -5, Check.text(w, "a000" + sign).things());
        }
    }

    private static void panes() {
        words("PANES 0 .. (at most 8): LIMIT 0 .. 9, HIDES (KINDS, bits)");
        PanesOfTheDead x = Check.town("11", "", "0a;9h;5;5;5;5;5;5abcdefgh", "");
        check.due(8, x.count(3));
        check.due(0, x.pane(0, 0));
        check.due(1, x.pane(0, 1));
        check.due(9, x.pane(1, 0));
        check.due(128, x.pane(1, 1));
        check.due(255, x.pane(7, 1));
        check.none(() -> x.pane(8, 0));
        check.due(-1, Check.text(x, "5").panes());
        check.due(8, x.count(3));
        words("a ROOM or none (at first none), WHOLE or BROKEN (at first WHOLE)");
        for (int i = 0; i < 8; i++) {
            check.due(-1, x.pane(i, 2));
            check.due(0, x.pane(i, 3));
        }
        firstAgain();
        words("They are told by a text of at most 79 signs");
        PanesOfTheDead y = Check.town("11", "", "", "");
        check.due(-80, Check.text(y, lines(8, "5abcdefgh") + " ").panes());
        check.due(8, Check.text(y, lines(8, "5abcdefgh")).panes());
        words("a digit (LIMIT), letters a .. h (HIDES, rising, perhaps none)");
        PanesOfTheDead z = Check.town("11", "", "", "");
        check.due(2, Check.text(z, "5;5ah").panes());
        check.due(0, z.pane(0, 1));
        check.due(129, z.pane(1, 1));
        check.due(-3, Check.text(z, "5ha").panes());
        check.due(-3, Check.text(z, "5hh").panes());
        check.due(-2, Check.text(z, "5i").panes());
        check.due(-2, Check.text(z, "5`").panes());
        check.due(-1, Check.text(z, "/").panes());
        check.due(-1, Check.text(z, ":").panes());
    }

    /** PANES that come where others hung and were BROKEN hang nowhere and are WHOLE. */
    private static void firstAgain() {
        PanesOfTheDead x = Check.town("11", "a900s", "0;0", "000");
        x.hang(0, 0);
        x.hang(1, 0);
        x.ball(0);
        x.ball(1);
        check.due(1, Check.text(x, "0").panes());
        check.due(-1, x.pane(2, 2));
        check.due(0, x.pane(2, 3));
        Check.text(x, "11").square();
        Check.text(x, "0;0;0").panes();
        for (int i = 0; i < 3; i++) {
            check.due(-1, x.pane(i, 2));
            check.due(0, x.pane(i, 3));
        }
    }

    private static void rooms() {
        words("ROOMS 0 .. (at most 4): a FIELD, RANGE 0 .. 9");
        PanesOfTheDead x = Check.town("66", "", "", "000;559;000;000");
        check.due(4, x.count(4));
        check.due(0, x.room(0, 0));
        check.due(0, x.room(0, 1));
        check.due(35, x.room(1, 0));
        check.due(9, x.room(1, 1));
        check.none(() -> x.room(4, 0));
        check.due(-1, Check.text(x, "000").rooms());
        check.due(4, x.count(4));
        words("They are told by a text of at most 15 signs");
        PanesOfTheDead y = Check.town("66", "", "", "");
        check.due(-16, Check.text(y, lines(4, "000") + " ").rooms());
        check.due(4, Check.text(y, lines(4, "000")).rooms());
        words("a digit (ROW), a digit (COLUMN), a digit (RANGE)");
        PanesOfTheDead z = Check.town("66", "", "", "");
        for (String wrong : new String[] {"/00", ":00"}) check.due(-1, Check.text(z, wrong).rooms());
        for (String wrong : new String[] {"0/0", "0:0"}) check.due(-2, Check.text(z, wrong).rooms());
        for (String wrong : new String[] {"00/", "00:"}) check.due(-3, Check.text(z, wrong).rooms());
    }

    private static void eachOneMore() {
        words("LINES with ; between, each one more");
        PanesOfTheDead x = Check.town("12", "a000s", "1", "000");
        check.due(2, Check.text(x, "b101s;c201u").things());
        check.due(3, x.count(2));
        check.due(0, x.thing(0, 0));
        check.due(2, x.thing(2, 0));
        check.due(1, Check.text(x, "2b").panes());
        check.due(2, x.count(3));
        check.due(1, x.pane(0, 0));
        check.due(2, x.pane(1, 0));
        check.due(1, Check.text(x, "013").rooms());
        check.due(2, x.count(4));
        check.due(0, x.room(0, 0));
        check.due(1, x.room(1, 0));
    }

    private static PanesOfTheDead oneOfEach() {
        return Check.town("11", "d700s", "4dg", "000");
    }

    /** By this rule the one PANE lets the one THING through or not. */
    private static void lets(boolean through, String rule) {
        PanesOfTheDead x = oneOfEach();
        check.due(0, Check.text(x, rule).rule());
        check.due(through ? 1 : 0, x.pane(0, 4));
    }

    private static void value(int due, String expression) {
        String number = due < 0 ? "-" + -due : "" + due;
        lets(true, "(" + expression + ")=" + number);
        lets(false, "(" + expression + ")-" + number);
    }

    private static void fault(int at, String rule) {
        check.due(-1 - at, Check.text(oneOfEach(), rule).rule());
    }

    private static void ruleSigns() {
        words("THE RULE is a text of at most 40 signs");
        lets(true, "0+".repeat(19) + "01");
        fault(40, "0+".repeat(20) + "1");
        lets(true, "-k+".repeat(13) + "k");
        lets(false, "-k*".repeat(13) + "0");
        words("(at first none: (h=0)*(s<l+1))");
        PanesOfTheDead x = Check.town("11", "a400s;a500s;d000s;a000s;g400s", "4dg", "");
        for (String rule : new String[] {"", "(h=0)*(s<l+1)", ""}) {
            check.due(1 + 8, x.pane(0, 4));
            check.due(0, Check.text(x, "1").rule());
            check.due(31, x.pane(0, 4));
            check.due(0, Check.text(x, rule).rule());
            check.due(1 + 8, x.pane(0, 4));
        }
    }

    private static void comparisons() {
        words("< > = bind least (two; 1 or 0; not one behind the other)");
        value(1, "1+1=2");
        value(1, "2*3>5");
        value(0, "5>2*3");
        value(1, "-1<0");
        value(1, "3<4");
        value(0, "4<4");
        value(0, "5<4");
        value(1, "5>4");
        value(0, "4>4");
        value(1, "4=4");
        value(0, "4=5");
        value(1, "(1<2)<3");
        value(0, "3<(2<1)");
        fault(0, "<1");
        fault(2, "1<");
        fault(2, "1<<2");
        fault(3, "1<2<3");
        fault(3, "1=1=1");
        fault(3, "1>0<1");
        fault(4, "(1<2<3)");
        fault(7, "1<2+3*4=5");
    }

    private static void sums() {
        words("then + - (from the left)");
        value(3, "10-4-3");
        value(9, "10-4+3");
        value(14, "2+3*4");
        value(0, "1+-1");
        fault(0, "+1");
        fault(2, "1+");
        fault(2, "1++1");
    }

    private static void products() {
        words("then * / (from the left; by 0: 0; cut to 0)");
        value(7, "100/7/2");
        value(6, "7/2*2");
        value(7, "7*2/2");
        value(0, "5/0");
        value(0, "-5/0");
        value(0, "0/0");
        value(3, "5/0+3");
        value(0, "5/(1-1)*9");
        value(-3, "-7/2");
        value(-3, "7/-2");
        value(3, "-7/-2");
        value(0, "1/2");
        value(0, "-1/2");
        fault(0, "*1");
        fault(0, "/1");
        fault(2, "1*");
        fault(2, "1*/2");
    }

    private static void negatives() {
        words("then - ahead of a thing (any many)");
        value(5, "--5");
        value(-5, "---5");
        value(-10, "-(2+3)*2");
        value(5, "2--3");
        value(-1, "2---3");
        value(6, "-2*-3");
        value(-7, "-s");
        lets(true, "-".repeat(39) + "1");
        lets(false, "-".repeat(39) + "0");
        fault(1, "-");
        fault(2, "1-");
        fault(1, "-+1");
        fault(1, "-*1");
        fault(1, "-)");
    }

    private static void numbers() {
        words("a NUMBER of 1 to 3 digits");
        value(0, "0");
        value(9, "9");
        value(99, "99");
        value(999, "999");
        value(7, "007");
        value(0, "000");
        fault(3, "1000");
        fault(3, "0000");
        fault(7, "1+2+1000");
        fault(1, "1k");
        fault(1, "k1");
    }

    private static void brackets() {
        words("an EXPRESSION in ( ) (at most 4 in one another)");
        lets(true, "((((1))))");
        fault(4, "(((((1)))))");
        lets(true, "((((1))))*((((1))))");
        fault(14, "((((1))))*(((((1)))))");
        lets(true, "(1+(1+(1+(1))))");
        fault(12, "(1+(1+(1+(1+(1)))))");
        fault(1, "(");
        fault(1, "()");
        fault(2, "(1");
        fault(1, "1)");
        fault(1, "1(1)");
        fault(3, "(1)1");
        fault(3, "(1)(1)");
        fault(3, "(1))");
    }

    /** The rule lets the THINGS (bits) through the first and the second PANE. */
    private static void both(PanesOfTheDead x, String rule, int first, int second) {
        check.due(0, Check.text(x, rule).rule());
        check.due(first, x.pane(0, 4));
        check.due(second, x.pane(1, 4));
    }

    private static void names() {
        words("k KIND, s SHAME, l LIMIT, h 1 if HIDES has its KIND, else 0, n how many KINDS HIDES has, t HOUR by 24 (rest)");
        PanesOfTheDead x = Check.town("11", "a000s;h900s", "0;9abcdefgh", "");
        both(x, "k=0", 1, 1);
        both(x, "k=7", 2, 2);
        both(x, "s=0", 1, 1);
        both(x, "s=9", 2, 2);
        both(x, "l=0", 3, 0);
        both(x, "l=9", 0, 3);
        both(x, "h=0", 3, 0);
        both(x, "h=1", 0, 3);
        both(x, "n=0", 3, 0);
        both(x, "n=8", 0, 3);
        both(Check.town("11", "a000s;h900s", "0a;0h", ""), "h=1", 1, 2);
        both(Check.town("11", "a000s;h900s", "0a;0bh", ""), "n=2", 0, 3);
        int[] hours = {0, 23, 1, 1, 60, 10, 1};
        int[] rest = {0, 23, 0, 1, 13, 23, 0};
        for (int i = 0; i < hours.length; i++) {
            x.hours(hours[i]);
            both(x, "t=" + rest[i], 3, 3);
            both(x, "t-" + rest[i], 0, 0);
        }
        for (char sign = 0; sign < 256; sign++) {
            boolean thing = "kslhnt0123456789".indexOf(sign) >= 0;
            boolean opens = sign == '(' || sign == '-';
            check.due(thing ? 0 : opens ? -2 : -1, Check.text(new PanesOfTheDead(), "" + sign).rule());
        }
    }

    private static void ints() {
        words("As ints: a WHOLE PANE lets a THING through if that is not 0; a BROKEN one lets all through");
        lets(true, "1");
        lets(true, "2");
        lets(true, "-1");
        lets(false, "0");
        lets(true, "512*512*512*16");
        lets(true, "512*512*512*16<0");
        lets(true, "512*512*512*16-1>0");
        lets(false, "512*512*512*32");
        lets(true, "512*512*512*16/-1<0");
        lets(true, "-(512*512*512*16)<0");
        lets(true, "999*999*999*3<0");
        PanesOfTheDead x = oneOfEach();
        Check.text(x, "0").rule();
        check.due(0, x.pane(0, 4));
        x.ball(0);
        check.due(1, x.pane(0, 4));
        check.due(0, Check.town("11", "d700s", "4dg", "").pane(0, 4));
    }

    private static void ranges() {
        words("if their FIELDS are no farther than RANGE from each other (ROWS and COLUMNS between them added)");
        PanesOfTheDead x = Check.town("66", "a000s;a054s;a045s;a055s;a001s;a010s", "9;9;9;9", "000;009;559;001");
        int[] near = {1, 55, 62, 49};
        for (int room = 0; room < 4; room++) check.due(near[room], x.room(room, 4));
        PanesOfTheDead tall = Check.town("61", "a000s;a030s;a050s", "", "002;503;205");
        check.due(1, tall.room(0, 4));
        check.due(6, tall.room(1, 4));
        check.due(7, tall.room(2, 4));
        PanesOfTheDead wide = Check.town("16", "a000s;a003s;a005s", "", "002;053;025");
        check.due(1, wide.room(0, 4));
        check.due(6, wide.room(1, 4));
        check.due(7, wide.room(2, 4));
        words("A ROOM without PANES sees nothing");
        for (int room = 0; room < 4; room++) check.due(0, x.room(room, 3));
        for (int thing = 0; thing < 6; thing++) check.due(0, x.thing(thing, 4));
        words("and a PANE of the ROOM lets it through");
        for (int room = 0; room < 4; room++) x.hang(room, room);
        for (int room = 0; room < 4; room++) check.due(near[room], x.room(room, 3));
        x.takes(1);
        check.due(0, x.room(1, 3));
        check.due(1 + 8, x.thing(0, 4));
        PanesOfTheDead y = Check.town("11", "a000s;b000s;c000s", "9bc;9ac;9abc", "000;000");
        y.hang(2, 0);
        check.due(0, y.room(0, 3));
        y.hang(0, 0);
        check.due(1, y.room(0, 3));
        y.hang(1, 0);
        check.due(3, y.room(0, 3));
        y.hang(1, 1);
        check.due(1, y.room(0, 3));
    }

    private static void walked(PanesOfTheDead x, int[] fields, int[] headings) {
        x.hours(1);
        for (int i = 0; i < fields.length; i++) {
            check.due(fields[i], x.thing(i, 2));
            check.due(headings[i], x.thing(i, 3));
        }
    }

    private static void hour() {
        words("where there is none, it stays, and its HEADING turns round");
        PanesOfTheDead x = Check.town("33", "a001u;a012r;a021d;a010l;a002r;a020l", "", "");
        walked(x, new int[] {1, 5, 7, 3, 2, 6}, new int[] {2, 3, 0, 1, 3, 1});
        walked(x, new int[] {4, 4, 4, 4, 1, 7}, new int[] {2, 3, 0, 1, 3, 1});
        PanesOfTheDead alone = Check.town("11", "a000u;a000r;a000d;a000l", "", "");
        walked(alone, new int[] {0, 0, 0, 0}, new int[] {2, 3, 0, 1});
        walked(alone, new int[] {0, 0, 0, 0}, new int[] {0, 1, 2, 3});
        PanesOfTheDead tall = Check.town("61", "a000u;a010u;a050d;a040d;a030l;a030r", "", "");
        walked(tall, new int[] {0, 0, 5, 5, 3, 3}, new int[] {2, 0, 0, 2, 1, 3});
        walked(tall, new int[] {1, 0, 4, 5, 3, 3}, new int[] {2, 2, 0, 0, 3, 1});
        PanesOfTheDead wide = Check.town("16", "a000l;a001l;a005r;a004r;a003u;a003d", "", "");
        walked(wide, new int[] {0, 0, 5, 5, 3, 3}, new int[] {1, 3, 3, 1, 2, 0});
        walked(wide, new int[] {1, 0, 4, 5, 3, 3}, new int[] {1, 1, 3, 3, 0, 2});
        words("at its HEADING (4: stays)");
        PanesOfTheDead still = Check.town("33", "a000s;a011s;a022s", "", "");
        walked(still, new int[] {0, 4, 8}, new int[] {4, 4, 4});
        words("HOUR (at first 0) is 1 more");
        PanesOfTheDead y = new PanesOfTheDead();
        check.due(0, y.count(5));
        y.hours(1);
        check.due(1, y.count(5));
    }

    private static void rowStays() {
        words("ROW: numbers told last by a call that says so");
        PanesOfTheDead x = new PanesOfTheDead();
        check.row(x);
        Check.text(x, "33").square();
        x.dark(0, 0);
        check.row(x, 9);
        Check.text(x, "23").square();
        Check.text(x, "a500r;b912s").things();
        Check.text(x, "5b;9").panes();
        Check.text(x, "022;101").rooms();
        Check.text(x, "1").rule();
        x.thing(0, 4);
        x.pane(0, 4);
        x.room(0, 4);
        x.sheet(2, 2, 1, 1);
        x.sheet(3, 0, 0, 0);
        x.hang(0, 0);
        x.hang(1, 0);
        x.takes(0);
        x.ball(0);
        x.carry(0, 1, 2);
        x.keep(0);
        x.undo();
        x.again(0);
        x.slips(0, 0, 0, 0);
        x.watched(0, 0, 1);
        x.forget();
        for (int what = -1; what <= 12; what++) x.count(what);
        check.row(x, 9);
        x.hidden();
        check.due(2, x.count(10));
    }

    private static void rowKinds() {
        words("Sets (of THINGS, PANES, ROOMS, KINDS) are bits");
        PanesOfTheDead x = Check.town("11", lines(8, "a000s"), lines(8, "9h"), lines(4, "000"));
        x.hang(7, 3);
        check.due(8, x.thing(7, 4));
        check.due(128, x.pane(7, 1));
        check.due(255, x.pane(7, 4));
        check.due(128, x.room(3, 2));
        check.due(255, x.room(3, 3));
        words("Rows are compared from the first number on");
        PanesOfTheDead y = Check.town("22", "", "0a;0b;0ab", "");
        check.due(3, y.count(3));
        check.due(2, Check.text(y, "a;b").claims());
        check.row(y, 0, 1);
        check.due(3, Check.text(y, "a;b;a;b").claims());
        check.row(y, -1, 1, 0, 2);
        check.due(2, y.steals(0, 3, 0, 0));
        check.row(y, 0, 1, 3);
        words("Fractions are told in lowest terms, upper and lower number (0 by 1)");
        PanesOfTheDead z = Check.town("11", "a000s", "9a;9a", "000");
        z.hang(0, 0);
        int[][] due = {{0, 1}, {1, 10}, {1, 5}, {3, 10}, {2, 5}, {1, 2}, {3, 5}, {7, 10}, {4, 5}, {9, 10}, {1, 1}};
        for (int p = 0; p <= 10; p++) {
            check.due(0, z.balls(0, 0, p));
            check.row(z, due[p][0], due[p][1]);
        }
    }

    private static void questions() {
        words("Questions change nothing");
        Twins twins = new Twins();
        PanesOfTheDead x = twins.called;
        for (int what = 0; what <= 4; what++) {
            x.thing(0, what);
            x.pane(0, what);
            x.room(0, what);
        }
        x.ahead(0, 99);
        x.first(0, 1);
        x.meets(0);
        x.doubts(0, 1);
        x.watch(1);
        x.hidden();
        x.glaze(0, 1, 2);
        x.best(0);
        x.adds(0);
        x.steals(0, 5, 1, 9);
        x.slips(0, 5, 1, 9);
        x.dark(1, 9);
        x.laws();
        x.next();
        x.fits();
        x.balls(0, 0, 5);
        x.rests(3);
        x.years(1, 60);
        twins.left.years(1, 60);
        check.alike(twins);
        Twins readers = new Twins();
        Check.text(readers.called, "1").law();
        Check.text(readers.called, "a;b").claims();
        readers.left.end(0);
        readers.called.hidden();
        readers.left.hidden();
        check.alike(readers);
    }

    private static final String REFUSED =
        "Refused calls answer NONE, or false, and change nothing but THE TEXT, which a call that reads it empties";

    private static long bit(boolean b) {
        return b ? 1 : 0;
    }

    private static void refusedTown() {
        words(REFUSED);
        check.due(-1, PanesOfTheDead.NONE);
        for (int n : new int[] {-1, 10, Integer.MIN_VALUE, Integer.MAX_VALUE}) check.refused(0, x -> bit(x.end(n)));
        int[][] sheets = {{4, 0}, {-1, 0}, {0, 9}, {1, 9}, {2, 9}, {3, 9}, {4, -1}, {2, Integer.MAX_VALUE}};
        for (int[] w : sheets) check.refused(-1, x -> x.sheet(w[0], w[1], 1, 1));
        for (int kind = 0; kind <= 2; kind++) {
            int k = kind;
            check.refused(-2, x -> x.sheet(k, -1, 1, 1));
        }
        for (int what : new int[] {-1, 12, Integer.MIN_VALUE}) check.refused(-100, x -> x.count(what));
        check.refused(0, x -> {
            check.none(() -> x.thing(3, 0));
            check.none(() -> x.thing(0, 5));
            check.none(() -> x.pane(3, 0));
            check.none(() -> x.pane(0, 5));
            check.none(() -> x.room(2, 0));
            check.none(() -> x.room(0, 5));
            check.none(() -> x.row(-1));
            return 0;
        });
    }

    private static void refusedActs() {
        words(REFUSED);
        for (int none : new int[] {-1, 3, 8, 32, Integer.MIN_VALUE, Integer.MAX_VALUE}) {
            check.refused(-1, x -> x.hang(none, 0));
            check.refused(-1, x -> x.hang(0, none));
            check.refused(-1, x -> x.takes(none));
            check.refused(-1, x -> x.ball(none));
            check.refused(-1, x -> x.carry(none, 0, 0));
            check.refused(0, x -> bit(x.keep(none)));
            check.refused(0, x -> bit(x.again(none)));
        }
        check.refused(-1, x -> x.hang(0, 2));
        check.refused(0, x -> bit(x.again(0)));
        check.refused(-2, x -> x.hang(0, 0));
        check.refused(-2, x -> x.takes(1));
        check.refused(-2, x -> x.ball(2));
        for (int none : new int[] {-1, 6, Integer.MIN_VALUE, Integer.MAX_VALUE}) {
            check.refused(-1, x -> x.carry(0, none, 0));
            check.refused(-1, x -> x.carry(0, 0, none));
        }
        check.refused(-1, x -> x.carry(0, 0, 5));
        for (int n : new int[] {-1, 61, Integer.MIN_VALUE, Integer.MAX_VALUE}) check.refused(-1, x -> x.hours(n));
        int[][] watched = {{8, 0, 0}, {-1, 0, 0}, {0, 10, 0}, {0, -1, 0}, {0, 0, 2}, {0, 0, -1}};
        for (int[] w : watched) check.refused(-1, x -> x.watched(w[0], w[1], w[2]));
    }

    private static void refusedQuestions() {
        words(REFUSED);
        for (int none : new int[] {-1, 2, 4, 32, Integer.MIN_VALUE, Integer.MAX_VALUE}) {
            check.refused(-1, x -> x.ahead(none, 0));
            check.refused(-1, x -> x.first(none, 0));
            check.refused(-1, x -> x.meets(none));
            check.refused(-1, x -> x.doubts(none, 0));
            check.refused(-1, x -> x.doubts(0, none));
            check.refused(-1, x -> x.glaze(none, 0, 0));
            check.refused(-1, x -> x.best(none));
            check.refused(-1, x -> x.balls(none, 0, 5));
        }
        for (int none : new int[] {-1, 3, 8, 32, Integer.MIN_VALUE, Integer.MAX_VALUE}) {
            check.refused(-1, x -> x.first(0, none));
            check.refused(-1, x -> x.adds(none));
            check.refused(-1, x -> x.balls(0, none, 5));
        }
        for (int none : new int[] {-1, 8, 9, Integer.MIN_VALUE}) {
            check.refused(-1, x -> x.watch(none));
            check.refused(-1, x -> x.glaze(0, none, 0));
            check.refused(-1, x -> x.glaze(0, 0, none));
        }
        check.refused(-1, x -> x.doubts(1, 1));
        for (int n : new int[] {-1, 100, Integer.MIN_VALUE, Integer.MAX_VALUE}) check.refused(-1, x -> x.ahead(0, n));
        for (int n : new int[] {-1, 11, Integer.MIN_VALUE}) check.refused(-1, x -> x.balls(0, 0, n));
        for (int n : new int[] {-1, 10, Integer.MIN_VALUE}) check.refused(-1, x -> x.rests(n));
        for (int n : new int[] {-1, 0, 61, Integer.MIN_VALUE}) check.refused(-1, x -> x.years(1, n));
        int[][] ways = {{-1, 0, 0, 0}, {6, 0, 0, 0}, {0, -1, 0, 0}, {0, 6, 0, 0}, {0, 0, -1, 0}, {0, 0, 8, 0}, {0, 0, 0, -1},
            {0, 0, 0, 10}};
        for (int[] w : ways) {
            check.refused(-1, x -> x.steals(w[0], w[1], w[2], w[3]));
            check.refused(-1, x -> x.slips(w[0], w[1], w[2], w[3]));
        }
        int[][] sorts = {{-1, 0}, {8, 0}, {0, -1}, {0, 10}};
        for (int[] w : sorts) check.refused(-1, x -> x.dark(w[0], w[1]));
    }

    private static void refusedTexts() {
        words(REFUSED);
        for (String s : new String[] {"", "x", "231"}) check.refusedText(-1 - s.length() / 3 * 2, s, PanesOfTheDead::square);
        check.refusedText(-1, "x", PanesOfTheDead::things);
        check.refusedText(-7, "a000s;", PanesOfTheDead::things);
        check.refusedText(-31, lines(6, "a000s"), PanesOfTheDead::things);
        check.refusedText(-1, "x", PanesOfTheDead::panes);
        check.refusedText(-3, "5;", PanesOfTheDead::panes);
        check.refusedText(-11, lines(6, "5"), PanesOfTheDead::panes);
        check.refusedText(-1, "x", PanesOfTheDead::rooms);
        check.refusedText(-5, "000;", PanesOfTheDead::rooms);
        check.refusedText(-9, lines(3, "000"), PanesOfTheDead::rooms);
        check.refusedText(-1, "x", PanesOfTheDead::rule);
        check.refusedText(-3, "1+", PanesOfTheDead::rule);
        check.refusedText(-1, "x", PanesOfTheDead::day);
        check.refusedText(-4, "h9b", PanesOfTheDead::day);
        check.refusedText(-1, "x", PanesOfTheDead::claims);
        check.refusedText(-3, "a;", PanesOfTheDead::claims);
        check.refusedText(-10000, "x", PanesOfTheDead::law);
        check.refusedText(-10002, "1+", PanesOfTheDead::law);
        check.refusedText(0, "", PanesOfTheDead::things);
        check.refusedText(0, "", PanesOfTheDead::panes);
        check.refusedText(0, "", PanesOfTheDead::rooms);
    }
}
