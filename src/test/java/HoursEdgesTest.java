/** The edges that promises 13 to 19 and 42 to 45 name, each beside its words. */
public final class HoursEdgesTest {
    private static final Check check = new Check();

    public static void main(String[] args) {
        hang();
        takes();
        ball();
        carry();
        hours();
        dayActs();
        dayRefused();
        dayFaults();
        dayLength();
        undoOrder();
        undoFifteen();
        undoDays();
        undoForgotten();
        fullTown();
        keep();
        again();
        againRefused();
        count();
        row();
        check.promisesQuoted(13, 19);
        check.promisesQuoted(42, 45);
        check.close();
    }

    private static PanesOfTheDead town() {
        return Check.town("23", "a500r;b912s;a210u", "5b;9;4a", "022;101");
    }

    private static final int[] NONE_SUCH = {-1, 3, 7, 8, 32, Integer.MIN_VALUE, Integer.MAX_VALUE};

    private static void hang() {
        check.words(13, "A PANE is hung in a ROOM (out of another one, if it was there): how many PANES that ROOM has then.");
        PanesOfTheDead x = Check.town("11", "", "5;5;5;5;5;5;5;5", "000;000;000;000");
        for (int i = 0; i < 8; i++) check.due(i + 1, x.hang(i, 3));
        check.due(255, x.room(3, 2));
        check.due(1, x.hang(7, 0));
        check.due(127, x.room(3, 2));
        check.due(128, x.room(0, 2));
        check.due(0, x.pane(7, 2));
        check.due(2, x.hang(0, 0));
        check.words(13, "-2: it hangs there");
        check.due(-2, x.hang(0, 0));
        check.due(-2, x.hang(7, 0));
        check.due(10, x.count(9));
        check.due(129, x.room(0, 2));
        check.words(13, "NONE: none such");
        PanesOfTheDead y = town();
        for (int none : NONE_SUCH) {
            check.due(-1, y.hang(none, 0));
            check.due(-1, y.hang(0, none));
            check.due(-1, y.hang(none, none));
        }
        check.due(-1, y.hang(0, 2));
        check.due(0, y.count(7));
        check.due(0, y.count(9));
        check.due(-1, Check.town("11", "", "5", "").hang(0, 0));
        check.due(-1, Check.town("11", "", "5", "").hang(0, -1));
        check.due(-1, Check.town("11", "", "", "000").hang(0, 0));
    }

    private static void takes() {
        check.words(14, "A PANE is taken down: the ROOM where it was.");
        PanesOfTheDead x = town();
        x.hang(0, 0);
        x.hang(2, 1);
        check.due(0, x.takes(0));
        check.due(1, x.takes(2));
        check.due(-1, x.pane(0, 2));
        check.due(0, x.count(7));
        check.words(14, "-2: it hangs nowhere");
        check.due(-2, x.takes(0));
        check.due(-2, x.takes(1));
        check.due(4, x.count(9));
        check.words(14, "NONE: none such");
        for (int none : NONE_SUCH) check.due(-1, x.takes(none));
        check.due(-1, new PanesOfTheDead().takes(0));
        check.due(4, x.count(9));
    }

    private static void ball() {
        check.words(15, "it is BROKEN: how many are.");
        PanesOfTheDead x = Check.town("11", "a900s", "0;0;0;0;0;0;0;0", "");
        for (int i = 7; i >= 0; i--) {
            check.due(0, x.pane(i, 4));
            check.due(8 - i, x.ball(i));
            check.due(1, x.pane(i, 3));
            check.due(1, x.pane(i, 4));
        }
        check.due(255, x.count(6));
        check.words(15, "-2: it is already");
        for (int i = 0; i < 8; i++) check.due(-2, x.ball(i));
        check.due(8, x.count(9));
        check.words(15, "NONE: none such");
        PanesOfTheDead y = town();
        for (int none : NONE_SUCH) check.due(-1, y.ball(none));
        check.due(0, y.count(6));
        check.due(0, y.count(9));
        check.due(-1, new PanesOfTheDead().ball(0));
    }

    private static void carry() {
        check.words(16, "A THING is carried to a FIELD, and gets a HEADING (0 .. 4): the FIELD where it was.");
        PanesOfTheDead x = town();
        int was = 5;
        for (int heading = 0; heading <= 4; heading++) {
            check.due(was, x.carry(1, heading, heading));
            check.due(heading, x.thing(1, 2));
            check.due(heading, x.thing(1, 3));
            was = heading;
        }
        check.due(4, x.carry(1, 4, 4));
        check.due(4, x.carry(1, 5, 4));
        check.due(5, x.carry(1, 0, 4));
        check.words(16, "NONE: others.");
        int had = x.count(9);
        for (int none : NONE_SUCH) check.due(-1, x.carry(none, 0, 0));
        for (int none : new int[] {-1, 6, 36, Integer.MIN_VALUE, Integer.MAX_VALUE}) {
            check.due(-1, x.carry(1, none, 0));
            check.due(-1, x.carry(1, 0, none));
        }
        check.due(-1, x.carry(1, 0, 5));
        check.due(had, x.count(9));
        check.due(0, x.thing(1, 2));
        check.due(4, x.thing(1, 3));
        check.due(-1, new PanesOfTheDead().carry(0, 0, 0));
    }

    private static void hours() {
        check.words(17, "n HOURS (0 .. 60): HOUR; the ROW: by ROOMS THINGS (bits) that they saw behind one or more of these HOURS");
        PanesOfTheDead x = town();
        x.hang(0, 0);
        x.hang(1, 1);
        check.due(1, x.room(0, 3));
        check.due(0, x.hours(0));
        check.row(x, 0, 0);
        check.due(0, x.thing(0, 2));
        check.due(1, x.hours(1));
        check.row(x, 5, 4);
        check.due(61, x.hours(60));
        check.row(x, 5, 5);
        check.due(61, x.hours(0));
        check.row(x, 0, 0);
        PanesOfTheDead seenOnce = Check.town("13", "a000r", "9", "000;020");
        seenOnce.hang(0, 1);
        check.due(1, seenOnce.hours(1));
        check.row(seenOnce, 0, 0);
        check.due(4, seenOnce.hours(3));
        check.row(seenOnce, 0, 1);
        check.due(0, seenOnce.room(1, 3));
        PanesOfTheDead bare = Check.town("11", "a000s", "9", "");
        check.due(3, bare.hours(3));
        check.row(bare);
        check.words(17, "Refused: another n.");
        for (int n : new int[] {-1, 61, Integer.MIN_VALUE, Integer.MAX_VALUE}) check.due(-1, x.hours(n));
        check.due(61, x.count(5));
        check.row(x, 0, 0);
    }

    private static void dayActs() {
        check.words(18, "(an empty one: nothing)");
        PanesOfTheDead x = town();
        check.due(0, Check.text(x, "").day());
        check.row(x, 0, 0);
        check.due(0, x.count(9));
        x.hours(7);
        check.due(0, Check.text(x, "").day());
        check.row(x, 0, 7);
        check.due(1, x.count(9));
        x = town();
        check.words(18, "h and a digit (hours())");
        check.due(2, Check.text(x, "h0h9").day());
        check.row(x, 0, 9);
        check.words(18, "p and two digits (PANE, ROOM: hang())");
        check.due(2, Check.text(x, "p20p01").day());
        check.due(0, x.pane(2, 2));
        check.due(1, x.pane(0, 2));
        check.words(18, "o and a digit (takes())");
        check.due(1, Check.text(x, "o0").day());
        check.due(-1, x.pane(0, 2));
        check.words(18, "b and a digit (ball())");
        check.due(1, Check.text(x, "b2").day());
        check.due(4, x.count(6));
        check.words(18, "c, a digit (THING), two digits (ROW, COLUMN), a letter u r d l s (carry())");
        String headings = "urdls";
        for (int i = 0; i < 5; i++) {
            check.due(1, Check.text(x, "c112" + headings.charAt(i)).day());
            check.due(5, x.thing(1, 2));
            check.due(i, x.thing(1, 3));
        }
        check.words(18, "how many were done; the ROW: 1 if one was refused, else 0; HOUR then");
        PanesOfTheDead y = town();
        check.due(5, Check.text(y, "h3p00b0o0c012l").day());
        check.row(y, 0, 3);
        check.due(0, y.count(11));
    }

    /** The last act is refused; those behind it are not done. */
    private static void refusedBehind(int done, String acts) {
        PanesOfTheDead x = town();
        x.hang(1, 1);
        x.ball(1);
        check.due(done, Check.text(x, acts + "h5b0").day());
        check.row(x, 1, done);
        check.due(done, x.count(5));
        check.due(2, x.count(6));
        check.due(0, x.count(11));
        check.due(done > 0 ? 3 : 2, x.count(9));
    }

    private static void dayRefused() {
        check.words(18, "they are done one by one, till one is refused (it answers below 0; a FIELD that is not there, too)");
        String[] refused = {"p30", "p90", "p02", "p09", "p11", "o3", "o9", "o0", "o2", "b3", "b9", "b1", "c300s", "c900s", "c020s",
            "c090s", "c003s", "c009s", "c199s"};
        for (String act : refused) {
            refusedBehind(0, act);
            refusedBehind(1, "h1" + act);
            refusedBehind(2, "h1h1" + act);
        }
        PanesOfTheDead bare = new PanesOfTheDead();
        check.due(1, Check.text(bare, "h1c000s").day());
        check.row(bare, 1, 1);
    }

    private static void dayFault(PanesOfTheDead x, int at, String text) {
        check.due(-1 - at, Check.text(x, text).day());
        check.due(0, x.count(11));
        check.due(1, x.count(5));
        check.due(1, x.count(9));
        check.due(0, x.count(6));
        check.row(x, 6);
    }

    private static void dayFaults() {
        PanesOfTheDead x = town();
        x.hours(1);
        x.dark(0, 0);
        check.words(18, "-1 - p: the sign at p can't stand there");
        dayFault(x, 0, "x");
        dayFault(x, 0, "1");
        dayFault(x, 1, "hh1");
        dayFault(x, 2, "h11");
        dayFault(x, 2, "h1;h1");
        dayFault(x, 1, "pp00");
        dayFault(x, 2, "p0p");
        x = town();
        x.hours(1);
        x.dark(0, 0);
        dayFault(x, 1, "oo");
        dayFault(x, 1, "bb");
        dayFault(x, 1, "cc");
        dayFault(x, 2, "c0c");
        dayFault(x, 3, "c00c");
        dayFault(x, 4, "c000c");
        dayFault(x, 5, "c000r0");
        x = town();
        x.hours(1);
        x.dark(0, 0);
        check.words(18, "its end, if it ends too early");
        for (String s : new String[] {"h", "p", "p0", "o", "b", "c", "c0", "c00", "c000"}) dayFault(x, s.length(), s);
        x = town();
        x.hours(1);
        x.dark(0, 0);
        check.words(18, "nothing is done then");
        dayFault(x, 8, "h5b0p00ox");
        dayFault(x, 5, "h5b0b");
        dayFault(x, 6, "o0h5b0?");
    }

    private static void dayLength() {
        check.words(18, "60, if it has more and the first 60 could go on or end");
        PanesOfTheDead x = town();
        x.hours(1);
        x.dark(0, 0);
        String sixty = "h0".repeat(30);
        dayFault(x, 60, sixty + "h");
        dayFault(x, 60, sixty + "?");
        dayFault(x, 60, sixty + "h0".repeat(10));
        dayFault(x, 60, "h0".repeat(29) + "p0" + "0");
        x = town();
        x.hours(1);
        x.dark(0, 0);
        dayFault(x, 60, "h0".repeat(29) + "p0");
        dayFault(x, 59, "h0".repeat(29) + "pp" + "0");
        dayFault(x, 0, "?" + sixty);
        check.due(30, Check.text(x, sixty).day());
        check.row(x, 0, 1);
        check.due(12, Check.text(x, "c000sc001sc002sc010sc011sc012sc100sc101sc102sc110sc111sc112s").day());
        check.due(5, x.thing(1, 2));
    }

    private static void undoOrder() {
        check.words(19, "FIELDS and HEADINGS of THINGS, ROOMS of PANES, what is BROKEN, HOUR are as ahead of it");
        PanesOfTheDead x = town();
        x.hang(0, 0);
        x.hang(0, 1);
        x.takes(0);
        x.ball(0);
        x.carry(0, 4, 2);
        x.hours(2);
        check.due(5, x.undo());
        check.due(0, x.count(5));
        check.due(4, x.thing(0, 2));
        check.due(2, x.thing(0, 3));
        check.due(4, x.undo());
        check.due(0, x.thing(0, 2));
        check.due(1, x.thing(0, 3));
        check.due(1, x.count(6));
        check.due(3, x.undo());
        check.due(0, x.count(6));
        check.due(-1, x.pane(0, 2));
        check.due(2, x.undo());
        check.due(1, x.pane(0, 2));
        check.due(1, x.undo());
        check.due(0, x.pane(0, 2));
        check.due(0, x.undo());
        check.due(-1, x.pane(0, 2));
        check.words(19, "Refused: none.");
        check.due(-1, x.undo());
        check.due(-1, new PanesOfTheDead().undo());
        check.words(19, "such as were done");
        x.hang(3, 0);
        x.takes(0);
        x.ball(3);
        x.carry(3, 0, 0);
        x.hours(61);
        Check.text(x, "?").day();
        check.due(-1, x.undo());
        x.ball(1);
        x.ball(1);
        check.due(0, x.undo());
        check.due(0, x.count(6));
        x.hours(0);
        check.due(0, x.undo());
    }

    private static void undoFifteen() {
        check.words(19, "of 15 that are kept, the latest ones");
        PanesOfTheDead x = town();
        for (int i = 1; i <= 15; i++) {
            x.hours(1);
            check.due(i, x.count(9));
        }
        PanesOfTheDead y = town();
        for (int i = 0; i < 16; i++) y.hours(1);
        check.due(15, y.count(9));
        for (int left = 14; left >= 0; left--) {
            check.due(left, x.undo());
            check.due(left, y.undo());
            check.due(left, x.count(5));
            check.due(left + 1, y.count(5));
        }
        check.due(-1, x.undo());
        check.due(-1, y.undo());
        check.due(1, y.count(5));
        PanesOfTheDead z = town();
        for (int i = 0; i < 40; i++) z.hours(1);
        check.due(14, z.undo());
        check.due(39, z.count(5));
        z.ball(0);
        check.due(15, z.count(9));
        z.ball(1);
        check.due(15, z.count(9));
        for (int left = 14; left >= 0; left--) check.due(left, z.undo());
        check.due(26, z.count(5));
    }

    private static void undoDays() {
        check.words(19, "day() of which one act was done, as one");
        PanesOfTheDead x = town();
        Check.text(x, "").day();
        Check.text(x, "o0h1").day();
        check.due(0, x.count(9));
        Check.text(x, "h3p00b1c012lp00").day();
        check.due(1, x.count(9));
        Check.text(x, "h1").day();
        check.due(1, x.undo());
        check.due(3, x.count(5));
        check.due(2, x.count(6));
        check.due(5, x.thing(0, 2));
        check.due(0, x.undo());
        check.due(0, x.count(5));
        check.due(0, x.count(6));
        check.due(0, x.count(7));
        check.due(0, x.thing(0, 2));
        check.due(1, x.thing(0, 3));
        Check.text(x, "h0").day();
        check.due(1, x.count(9));
    }

    private static void undoForgotten() {
        check.words(19, "square(), things(), panes(), rooms() and again() forget them, if they are not refused");
        for (int call = 0; call < 5; call++) {
            PanesOfTheDead x = town();
            x.keep(0);
            x.ball(0);
            forgets(x, call, "?");
            check.due(1, x.count(9));
            forgets(x, call, new String[] {"11", "a000s", "5", "000", ""}[call]);
            check.due(0, x.count(9));
            check.due(-1, x.undo());
        }
        check.words(19, "those that read an empty text do not");
        for (int call = 0; call < 4; call++) {
            PanesOfTheDead x = town();
            x.ball(0);
            forgets(x, call, "");
            check.due(1, x.count(9));
            check.due(0, x.undo());
            check.due(0, x.count(6));
        }
        PanesOfTheDead x = town();
        x.ball(0);
        Check.text(x, "1").rule();
        x.sheet(3, 0, 0, 0);
        x.keep(0);
        x.watched(0, 0, 1);
        x.forget();
        check.due(1, x.count(9));
        check.due(0, x.undo());
        check.due(0, x.thing(0, 1));
        check.due(7, x.pane(0, 4));
    }

    private static void forgets(PanesOfTheDead x, int call, String text) {
        Check.text(x, text);
        switch (call) {
            case 0: x.square(); break;
            case 1: x.things(); break;
            case 2: x.panes(); break;
            case 3: x.rooms(); break;
            default: x.again(text.isEmpty() ? 0 : 1); break;
        }
    }

    /** The last THING and the last PANE come back as the first ones do. */
    private static void fullTown() {
        check.words(19, "FIELDS and HEADINGS of THINGS, ROOMS of PANES, what is BROKEN, HOUR are as ahead of it");
        String eight = "a000r;a001r;a002r;a003l;a010r;a011r;a012r;a013d";
        PanesOfTheDead x = Check.town("24", eight, "5;5;5;5;5;5;5;5", "000;000;000;000");
        for (int pane = 0; pane < 8; pane++) x.hang(pane, pane % 4);
        x.ball(7);
        x.ball(0);
        x.keep(2);
        for (int twice = 0; twice < 2; twice++) {
            x.hours(9);
            x.hang(7, 0);
            x.takes(0);
            x.ball(6);
            x.carry(7, 0, 4);
            if (twice == 0) {
                for (int left = 4; left >= 0; left--) x.undo();
            } else {
                x.again(2);
            }
            check.due(0, x.count(5));
            check.due(129, x.count(6));
            for (int pane = 0; pane < 8; pane++) check.due(pane % 4, x.pane(pane, 2));
            for (int thing = 0; thing < 8; thing++) check.due(thing, x.thing(thing, 2));
            check.due(1, x.thing(0, 3));
            check.due(3, x.thing(3, 3));
            check.due(2, x.thing(7, 3));
        }
    }

    private static void keep() {
        check.words(42, "are kept under a number 0 .. 2: true. Refused: others.");
        PanesOfTheDead x = town();
        for (int i = 0; i < 3; i++) {
            x.hours(i + 1);
            check.yes(x.keep(i));
        }
        for (int i : new int[] {-1, 3, 32, Integer.MIN_VALUE, Integer.MAX_VALUE}) check.no(x.keep(i));
        int[] hour = {1, 3, 6};
        for (int i = 2; i >= 0; i--) {
            check.yes(x.again(i));
            check.due(hour[i], x.count(5));
        }
        x.hours(9);
        check.yes(x.keep(1));
        check.yes(x.again(0));
        check.due(1, x.count(5));
        check.yes(x.again(1));
        check.due(10, x.count(5));
        check.words(42, "FIELDS and HEADINGS of THINGS, ROOMS of PANES, what is BROKEN, HOUR");
        PanesOfTheDead y = Twins.grown();
        check.yes(y.keep(0));
        check.due(5, y.count(9));
        check.due(4, y.undo());
        check.due(5, y.thing(1, 2));
        check.yes(y.again(0));
        check.due(3, y.thing(1, 2));
        check.due(2, y.thing(1, 3));
    }

    private static void again() {
        check.words(43, "They are as they were kept under a number.");
        PanesOfTheDead x = town();
        x.hang(0, 1);
        x.ball(2);
        x.hours(1);
        x.keep(1);
        x.carry(0, 5, 4);
        x.hours(5);
        x.takes(0);
        x.hang(1, 0);
        x.ball(1);
        for (int twice = 0; twice < 2; twice++) {
            check.yes(x.again(1));
            check.due(1, x.count(5));
            check.due(4, x.count(6));
            check.due(1, x.count(7));
            check.due(1, x.pane(0, 2));
            check.due(1, x.thing(0, 2));
            check.due(1, x.thing(0, 3));
            check.due(0, x.count(9));
            x.hours(2);
        }
    }

    private static void againRefused() {
        check.words(43, "Refused: nothing kept");
        PanesOfTheDead x = town();
        for (int i : new int[] {-1, 0, 1, 2, 3, 32, Integer.MIN_VALUE, Integer.MAX_VALUE}) check.no(x.again(i));
        x.keep(1);
        check.no(x.again(0));
        check.no(x.again(2));
        check.yes(x.again(1));
        check.words(43, "THINGS, PANES or ROOMS came since");
        String[] one = {"a000s", "5", "000"};
        for (int call = 1; call <= 3; call++) {
            PanesOfTheDead y = town();
            for (int i = 0; i < 3; i++) y.keep(i);
            forgets(y, call, "?");
            check.yes(y.again(0));
            forgets(y, call, "");
            check.yes(y.again(0));
            forgets(y, call, one[call - 1]);
            for (int i = 0; i < 3; i++) check.no(y.again(i));
            check.yes(y.keep(1));
            check.yes(y.again(1));
            check.no(y.again(0));
        }
        check.no(Twins.grown().again(0));
    }

    private static void count() {
        check.words(44, "What 0: ROWS, 1: COLUMNS, 2: THINGS, 3: PANES, 4: ROOMS, 5: HOUR, 6: BROKEN (bits), 7: PANES that hang (bits), "
            + "8: what was watched, 9: what can be undone, 10: numbers of the ROW, 11: signs of THE TEXT.");
        PanesOfTheDead x = Twins.grown();
        int[] due = {2, 3, 3, 3, 2, 2, 4, 5, 2, 5, 1, 9};
        for (int what = 0; what <= 11; what++) check.due(due[what], x.count(what));
        check.words(44, "-100 for another what.");
        for (int what : new int[] {-1, 12, -100, Integer.MIN_VALUE, Integer.MAX_VALUE}) check.due(-100, x.count(what));
        for (int what : new int[] {-1, 12}) check.due(-100, new PanesOfTheDead().count(what));
    }

    private static void row() {
        check.words(45, "Number i of the ROW.");
        PanesOfTheDead x = Check.town("66", "", "", "");
        x.steals(0, 35, 0, 0);
        int[] way = {0, 1, 2, 3, 4, 5, 11, 17, 23, 29, 35};
        for (int i = 0; i < way.length; i++) check.due(way[i], x.row(i));
        check.words(45, "NoSuchElementException: none such.");
        check.none(() -> x.row(11));
        check.none(() -> x.row(-1));
        check.none(() -> x.row(Integer.MIN_VALUE));
        check.none(() -> x.row(Integer.MAX_VALUE));
        x.dark(0, 0);
        check.due(36, x.row(0));
        check.none(() -> x.row(1));
        check.none(() -> new PanesOfTheDead().row(0));
        x.watched(0, 0, 1);
        x.watched(0, 0, 0);
        x.laws();
        check.none(() -> x.row(0));
    }
}
