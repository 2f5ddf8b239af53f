import java.util.ArrayList;
import java.util.List;
import java.util.NoSuchElementException;
import java.util.function.ToLongFunction;

/** Two objects with the same past: what one call changed is told by all that both answer behind it. */
final class Twins {
    private static final String TEXT = "(k+s<l)+t";

    final PanesOfTheDead called = grown();
    final PanesOfTheDead left = grown();

    /** A town with something of everything: a rule, a ROW, acts to undo, what is kept, what was watched, THE TEXT. */
    static PanesOfTheDead grown() {
        PanesOfTheDead x = Check.town("23", "a500r;b912s;a210u", "5b;9;4a", "022;101");
        Check.text(x, "(h=0)*(s<l+1)+(t=2)").rule();
        x.hang(2, 1);
        x.keep(1);
        x.hang(0, 0);
        x.ball(2);
        x.hours(2);
        x.carry(1, 3, 2);
        x.keep(2);
        x.watched(0, 5, 1);
        x.watched(1, 5, 0);
        x.dark(0, 4);
        return Check.text(x, TEXT);
    }

    /** How both differ, or nothing; used up behind it. */
    String difference() {
        List<String> one = probed(called);
        List<String> other = probed(left);
        for (int i = 0; i < Math.max(one.size(), other.size()); i++) {
            String got = i < one.size() ? one.get(i) : "nothing";
            String due = i < other.size() ? other.get(i) : "nothing";
            if (!got.equals(due)) return got + " instead of " + due;
        }
        return "";
    }

    private static List<String> probed(PanesOfTheDead x) {
        List<String> all = new ArrayList<>();
        for (int what = 0; what <= 11; what++) {
            int w = what;
            tell(all, "count " + what, x, y -> y.count(w));
        }
        row(all, x);
        town(all, x);
        tell(all, "THE TEXT as a rule", x, PanesOfTheDead::law);
        row(all, x);
        tell(all, "laws", x, PanesOfTheDead::laws);
        row(all, x);
        tell(all, "fits", x, PanesOfTheDead::fits);
        for (int i = 0; i < 7; i++) {
            tell(all, "undo", x, PanesOfTheDead::undo);
            moment(all, x);
        }
        for (int i = 0; i < 3; i++) {
            int number = i;
            tell(all, "again " + i, x, y -> y.again(number) ? 1 : 0);
            moment(all, x);
        }
        return all;
    }

    private static void tell(List<String> all, String name, PanesOfTheDead x, ToLongFunction<PanesOfTheDead> call) {
        String said;
        try {
            said = String.valueOf(call.applyAsLong(x));
        } catch (NoSuchElementException e) {
            said = "NoSuchElementException";
        }
        all.add(name + ": " + said);
    }

    private static void row(List<String> all, PanesOfTheDead x) {
        for (int i = 0; i < x.count(10); i++) all.add("row " + i + ": " + x.row(i));
    }

    private static void town(List<String> all, PanesOfTheDead x) {
        for (int i = 0; i < x.count(2); i++) {
            for (int what = 0; what <= 4; what++) all.add("thing " + i + ", " + what + ": " + x.thing(i, what));
        }
        for (int i = 0; i < x.count(3); i++) {
            for (int what = 0; what <= 4; what++) all.add("pane " + i + ", " + what + ": " + x.pane(i, what));
        }
        for (int i = 0; i < x.count(4); i++) {
            for (int what = 0; what <= 4; what++) all.add("room " + i + ", " + what + ": " + x.room(i, what));
        }
    }

    private static void moment(List<String> all, PanesOfTheDead x) {
        all.add("HOUR " + x.count(5) + ", BROKEN " + x.count(6));
        for (int i = 0; i < x.count(2); i++) all.add("THING " + i + " on " + x.thing(i, 2) + ", " + x.thing(i, 3));
        for (int i = 0; i < x.count(3); i++) all.add("PANE " + i + " in " + x.pane(i, 2));
    }
}
