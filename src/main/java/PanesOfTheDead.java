import java.util.Arrays;
import java.util.NoSuchElementException;

/** Panes blown with last breaths: a square, things that walk on it, and what rooms see of it through their panes. */
public final class PanesOfTheDead {
    public static final int NONE = -1;

    private static final int NOT_SO = -2;
    private static final int MISSING = -3;
    private static final int NO_SUCH_COUNT = -100;
    private static final int LAW_FAULT = -10000;

    private static final int TEXT_SIGNS = 80;
    private static final int SQUARE_SIGNS = 2;
    private static final int THING_SIGNS = 47;
    private static final int PANE_SIGNS = 79;
    private static final int ROOM_SIGNS = 15;
    private static final int RULE_SIGNS = 40;
    private static final int DAY_SIGNS = 60;
    private static final int NO_SIGN = -1;

    private static final int SIDE = 6;
    private static final int FIELDS = 36;
    private static final int THINGS = 8;
    private static final int PANES = 8;
    private static final int ROOMS = 4;
    private static final int KINDS = 8;
    private static final int DIGITS = 10;
    private static final int CLAIMS = 8;
    private static final int WATCHED = 12;
    private static final int UNDONE = 15;
    private static final int KEPT = 3;
    private static final int HEADINGS = 5;
    private static final int STAY = 4;

    private static final int HOURS_OF_DAY = 24;
    private static final int HOURS_AT_ONCE = 60;
    private static final int HOURS_AHEAD = 99;
    private static final int YEARS_AT_ONCE = 60;

    private final Text text = new Text();
    private final Reader reader = new Reader(text);
    private final Town town = new Town();
    private final Moment now = new Moment();
    private final Moment before = new Moment();
    private final Moment later = new Moment();
    private final Past past = new Past();
    private final Numbers told = new Numbers();
    private final Parts parts = new Parts();
    private final Ways ways = new Ways(town);
    private final Witness witness = new Witness();
    private final Heirs heirs = new Heirs();
    private Rule spare = new Rule();
    private int random;

    public PanesOfTheDead() {
    }

    // ---- the square, things, panes, rooms

    public int sign(int v) {
        return text.add(v);
    }

    public boolean end(int n) {
        return text.cut(n);
    }

    public int square() {
        reader.open(SQUARE_SIGNS);
        int rows = 1 + reader.signFrom('1', SIDE);
        int columns = 1 + reader.signFrom('1', SIDE);
        int answer = reader.answer(rows * columns);
        text.clear();
        if (answer > 0) {
            town.lay(rows, columns);
            now.clear();
            past.forgetAll();
            witness.clear();
        }
        return answer;
    }

    public int things() {
        if (text.isEmpty()) {
            return 0;
        }
        reader.open(THING_SIGNS);
        return arrived(town.readThings(reader, now));
    }

    public int panes() {
        if (text.isEmpty()) {
            return 0;
        }
        reader.open(PANE_SIGNS);
        return arrived(town.readPanes(reader, now));
    }

    public int rooms() {
        if (text.isEmpty()) {
            return 0;
        }
        reader.open(ROOM_SIGNS);
        return arrived(town.readRooms(reader));
    }

    /** What was kept or can be undone knows nothing of the newcomers: it is forgotten. */
    private int arrived(int answer) {
        text.clear();
        if (answer > 0) {
            past.forgetAll();
        }
        return answer;
    }

    public int rule() {
        int fault = readSpare();
        if (fault != NONE) {
            return -1 - fault;
        }
        swapRules();
        return 0;
    }

    /** THE TEXT becomes the spare rule: where its fault is. */
    private int readSpare() {
        spare.clear();
        int fault = NONE;
        if (!text.isEmpty()) {
            reader.open(RULE_SIGNS);
            spare.read(reader);
            fault = reader.firstFault();
        }
        text.clear();
        return fault;
    }

    private void swapRules() {
        Rule old = town.rule;
        town.rule = spare;
        spare = old;
    }

    public int thing(int thing, int what) throws NoSuchElementException {
        if (!town.isThing(thing)) {
            throw new NoSuchElementException();
        }
        switch (what) {
            case 0: return town.kind[thing];
            case 1: return town.shame[thing];
            case 2: return now.field[thing];
            case 3: return now.heading[thing];
            case 4: return town.roomsSeeing(now, thing);
            default: throw new NoSuchElementException();
        }
    }

    public int pane(int pane, int what) throws NoSuchElementException {
        if (!town.isPane(pane)) {
            throw new NoSuchElementException();
        }
        switch (what) {
            case 0: return town.limit[pane];
            case 1: return town.hides[pane];
            case 2: return now.home[pane];
            case 3: return now.isBroken(pane) ? 1 : 0;
            case 4: return town.through(now, pane, town.allThings());
            default: throw new NoSuchElementException();
        }
    }

    public int room(int room, int what) throws NoSuchElementException {
        if (!town.isRoom(room)) {
            throw new NoSuchElementException();
        }
        switch (what) {
            case 0: return town.place[room];
            case 1: return town.range[room];
            case 2: return town.panesIn(now, room);
            case 3: return town.seenFrom(now, room);
            case 4: return town.near(now, room);
            default: throw new NoSuchElementException();
        }
    }

    public int sheet(int kind, int n, int f, int step) {
        if (kind < 0 || kind > 3 || n > THINGS) {
            return NONE;
        }
        if (kind == 3) {
            town.setShames(0, 0, 0, 0);
            return MISSING;
        }
        return n < 0 ? NOT_SO : town.setShames(kind, n, f, step);
    }

    // ---- hours, panes

    public int hang(int pane, int room) {
        before.copy(now);
        return remembered(hangPane(pane, room));
    }

    public int takes(int pane) {
        before.copy(now);
        return remembered(takeDown(pane));
    }

    public int ball(int pane) {
        before.copy(now);
        return remembered(breakPane(pane));
    }

    public int carry(int thing, int field, int heading) {
        before.copy(now);
        return remembered(carryThing(thing, field, heading));
    }

    private int remembered(int answer) {
        if (answer >= 0) {
            past.push(before);
        }
        return answer;
    }

    private int hangPane(int pane, int room) {
        if (!town.isPane(pane) || !town.isRoom(room)) {
            return NONE;
        }
        if (now.home[pane] == room) {
            return NOT_SO;
        }
        now.home[pane] = room;
        return Integer.bitCount(town.panesIn(now, room));
    }

    private int takeDown(int pane) {
        if (!town.isPane(pane)) {
            return NONE;
        }
        int home = now.home[pane];
        if (home == NONE) {
            return NOT_SO;
        }
        now.home[pane] = NONE;
        return home;
    }

    private int breakPane(int pane) {
        if (!town.isPane(pane)) {
            return NONE;
        }
        if (now.isBroken(pane)) {
            return NOT_SO;
        }
        now.broken |= 1 << pane;
        return Integer.bitCount(now.broken);
    }

    private int carryThing(int thing, int field, int heading) {
        if (!town.isThing(thing) || !town.isField(field) || heading < 0 || heading >= HEADINGS) {
            return NONE;
        }
        int old = now.field[thing];
        now.field[thing] = field;
        now.heading[thing] = heading;
        return old;
    }

    public int hours(int n) {
        if (n < 0 || n > HOURS_AT_ONCE) {
            return NONE;
        }
        past.push(now);
        told.clear();
        for (int room = 0; room < town.rooms; room++) {
            told.add(0);
        }
        for (int i = 0; i < n; i++) {
            town.walk(now);
            for (int room = 0; room < town.rooms; room++) {
                told.join(room, town.seenFrom(now, room));
            }
        }
        return now.hour;
    }

    public int day() {
        int answer = readDay();
        if (answer == 0) {
            answer = liveDay();
        }
        text.clear();
        return answer;
    }

    private int readDay() {
        reader.open(DAY_SIGNS);
        for (int i = 0; i < DAY_SIGNS && reader.peek() != NO_SIGN; i++) {
            reader.passAct();
        }
        return reader.answer(0);
    }

    private int liveDay() {
        before.copy(now);
        reader.open(DAY_SIGNS);
        int done = 0;
        boolean refused = false;
        for (int i = 0; i < DAY_SIGNS && !refused && reader.peek() != NO_SIGN; i++) {
            refused = doAct() < 0;
            done += refused ? 0 : 1;
        }
        if (done > 0) {
            past.push(before);
        }
        told.tellTwo(refused ? 1 : 0, now.hour);
        return done;
    }

    private int doAct() {
        if (reader.passes('h')) {
            return passHours(reader.digit(DIGITS));
        }
        if (reader.passes('p')) {
            return hangPane(reader.digit(DIGITS), reader.digit(DIGITS));
        }
        if (reader.passes('o')) {
            return takeDown(reader.digit(DIGITS));
        }
        if (reader.passes('b')) {
            return breakPane(reader.digit(DIGITS));
        }
        return reader.passes('c') ? carryAsTold() : NONE;
    }

    private int passHours(int n) {
        for (int i = 0; i < n; i++) {
            town.walk(now);
        }
        return now.hour;
    }

    private int carryAsTold() {
        int thing = reader.digit(DIGITS);
        int row = reader.digit(DIGITS);
        int column = reader.digit(DIGITS);
        int heading = reader.heading();
        if (row >= town.rows || column >= town.columns) {
            return NONE;
        }
        return carryThing(thing, row * town.columns + column, heading);
    }

    public int undo() {
        return past.pop(now);
    }

    // ---- what is seen

    public int ahead(int room, int n) {
        if (!town.isRoom(room) || n < 0 || n > HOURS_AHEAD) {
            return NONE;
        }
        later.copy(now);
        for (int i = 0; i < n; i++) {
            town.walk(later);
        }
        int seen = town.seenFrom(later, room);
        boolean glazed = town.panesIn(later, room) != 0;
        told.tellTwo(Integer.bitCount(seen), glazed ? town.near(later, room) : 0);
        return seen;
    }

    public int first(int room, int thing) {
        if (!town.isRoom(room) || !town.isThing(thing)) {
            return NONE;
        }
        later.copy(now);
        for (int hour = 0; hour <= HOURS_AHEAD; hour++) {
            if (town.sees(later, room, thing)) {
                told.tellOne(later.field[thing]);
                return hour;
            }
            town.walk(later);
        }
        return NOT_SO;
    }

    public int meets(int room) {
        if (!town.isRoom(room)) {
            return NONE;
        }
        later.copy(now);
        for (int hour = 0; hour <= HOURS_AHEAD; hour++) {
            if (tellMeeting(town.seenFrom(later, room))) {
                return hour;
            }
            town.walk(later);
        }
        return NOT_SO;
    }

    private boolean tellMeeting(int seen) {
        if (Integer.bitCount(seen) < 2) {
            return false;
        }
        for (int field = 0; field < town.fields(); field++) {
            int there = seen & town.thingsOn(later, field);
            if (Integer.bitCount(there) >= 2) {
                told.tellTwo(field, there);
                return true;
            }
        }
        return false;
    }

    public int doubts(int one, int other) {
        if (!town.isRoom(one) || !town.isRoom(other) || one == other) {
            return NONE;
        }
        int near = town.near(now, one) & town.near(now, other);
        int seen = town.seenFrom(now, one);
        int doubted = (seen ^ town.seenFrom(now, other)) & near;
        told.tellTwo(doubted & seen, near);
        return doubted;
    }

    public int watch(int things) {
        if (!town.areThings(things)) {
            return NONE;
        }
        parts.clear();
        for (int room = 0; room < town.rooms; room++) {
            parts.add(town.seenFrom(now, room));
        }
        return tellFewest(things, 0);
    }

    private int tellFewest(int yes, int no) {
        int chosen = parts.fewest(yes, no);
        if (chosen == NONE) {
            return NOT_SO;
        }
        told.tellOne(chosen);
        return Integer.bitCount(chosen);
    }

    public int hidden() {
        int some = 0;
        int every = town.allThings();
        for (int room = 0; room < town.rooms; room++) {
            int seen = town.seenFrom(now, room);
            some |= seen;
            every &= seen;
        }
        int unseen = town.allThings() & ~some;
        told.tellTwo(Integer.bitCount(unseen), every);
        return unseen;
    }

    // ---- glazing

    public int glaze(int room, int yes, int no) {
        if (!town.isRoom(room) || !town.areThings(yes) || !town.areThings(no)) {
            return NONE;
        }
        partByPanes(room);
        return tellFewest(yes, no);
    }

    /** The parts are what each PANE, hung in the ROOM alone, would show there. */
    private void partByPanes(int room) {
        int near = town.near(now, room);
        parts.clear();
        for (int pane = 0; pane < town.panes; pane++) {
            parts.add(town.through(now, pane, near));
        }
    }

    public int best(int room) {
        if (!town.isRoom(room)) {
            return NONE;
        }
        int hung = town.panesIn(now, room);
        if (hung == 0) {
            return NOT_SO;
        }
        partByPanes(room);
        int best = NONE;
        int fewest = THINGS + 1;
        for (int pane = 0; pane < town.panes; pane++) {
            int left = Integer.bitCount(parts.union(hung & ~(1 << pane)));
            if (has(hung, pane) && left < fewest) {
                best = pane;
                fewest = left;
            }
        }
        told.tellTwo(fewest, Integer.bitCount(parts.union(hung)));
        return best;
    }

    public int adds(int pane) {
        if (!town.isPane(pane)) {
            return NONE;
        }
        int room = now.home[pane];
        if (room == NONE) {
            return NOT_SO;
        }
        partByPanes(room);
        int own = parts.union(1 << pane);
        int others = town.panesIn(now, room) & ~(1 << pane);
        int sets = 0;
        for (int set = 0; set <= others; set++) {
            boolean isSet = (set & ~others) == 0;
            if (isSet && (own & ~parts.union(set)) != 0) {
                sets++;
            }
        }
        told.tellOne(1 << Integer.bitCount(others));
        return sets;
    }

    // ---- ways

    public int steals(int from, int to, int kind, int shame) {
        if (!town.isField(from) || !town.isField(to) || !isSort(kind, shame)) {
            return NONE;
        }
        return ways.tellShortest(ways.unseen(now, now.hour, kind, shame), from, to, told);
    }

    public int slips(int from, int to, int kind, int shame) {
        if (!town.isField(from) || !town.isField(to) || !isSort(kind, shame)) {
            return NONE;
        }
        long reached = 1L << from & ways.unseen(now, now.hour, kind, shame);
        for (int n = 0; n <= HOURS_AT_ONCE && reached != 0; n++) {
            if ((reached >>> to & 1) != 0) {
                return n;
            }
            reached = (reached | ways.beside(reached)) & ways.unseen(now, now.hour + n + 1, kind, shame);
        }
        return NOT_SO;
    }

    public long dark(int kind, int shame) {
        if (!isSort(kind, shame)) {
            return NONE;
        }
        long fields = ways.unseen(now, now.hour, kind, shame);
        told.tellOne(Long.bitCount(fields));
        return fields;
    }

    // ---- what somebody could not bear

    public int watched(int kind, int shame, int is) {
        if (!isSort(kind, shame) || is < 0 || is > 1) {
            return NONE;
        }
        return witness.add(kind, shame, is == 1);
    }

    public int forget() {
        return witness.clear();
    }

    public int laws() {
        int fitting = witness.weigh();
        told.clear();
        int limit = witness.mildestLimit();
        if (limit != NONE) {
            told.tellTwo(witness.hiddenAt(limit), limit);
        }
        return fitting;
    }

    public int next() {
        int fitting = witness.weigh();
        if (fitting == 0) {
            return NOT_SO;
        }
        int best = 0;
        int fewest = fitting + 1;
        for (int sort = 0; sort < KINDS * DIGITS; sort++) {
            int seen = witness.fittingIfSeen(sort / DIGITS, sort % DIGITS);
            int left = Math.max(seen, fitting - seen);
            if (left < fewest) {
                best = sort;
                fewest = left;
            }
        }
        told.tellOne(fewest);
        return best;
    }

    public int fits() {
        int fitting = 0;
        for (int pane = 0; pane < town.panes; pane++) {
            if (witness.allows(town.limit[pane], town.hides[pane])) {
                fitting |= 1 << pane;
            }
        }
        told.tellOne(Integer.bitCount(fitting));
        return fitting;
    }

    public int claims() {
        heirs.clear();
        int answer = readClaims();
        text.clear();
        return answer == 0 ? heirs.tellMost(told) : answer;
    }

    private int readClaims() {
        reader.open(TEXT_SIGNS);
        boolean more = !text.isEmpty();
        for (int line = 0; more && line < CLAIMS; line++) {
            int kinds = reader.kinds();
            reader.demand(kinds != 0);
            heirs.add(town.panesHiding(kinds));
            more = reader.another();
        }
        reader.demand(!more);
        return reader.answer(0);
    }

    // ---- balls, laws

    public int balls(int room, int thing, int p) {
        if (!town.isRoom(room) || !town.isThing(thing) || p < 0 || p > 10) {
            return NONE;
        }
        if (town.sees(now, room, thing)) {
            told.tellTwo(1, 1);
            return 0;
        }
        boolean inRange = has(town.near(now, room), thing);
        int panes = inRange ? Integer.bitCount(town.panesIn(now, room)) : 0;
        long all = 1;
        long unbroken = 1;
        for (int i = 0; i < panes; i++) {
            all *= 10;
            unbroken *= 10 - p;
        }
        tellFraction(all - unbroken, all);
        return 0;
    }

    private void tellFraction(long upper, long lower) {
        long common = commonDivisor(upper, lower);
        if (common > 0) {
            told.tellTwo(upper / common, lower / common);
        }
    }

    private static long commonDivisor(long one, long other) {
        long a = one;
        long b = other;
        for (int i = 0; i < 100 && b != 0; i++) {
            long rest = a % b;
            a = b;
            b = rest;
        }
        return a;
    }

    public int law() {
        int fault = readSpare();
        if (fault != NONE) {
            return LAW_FAULT - fault;
        }
        int byRule = town.pairsThrough(now);
        swapRules();
        int byOther = town.pairsThrough(now);
        swapRules();
        told.tellTwo(byOther, byRule);
        return byOther - byRule;
    }

    // ---- rests, years

    public int rests(int v) {
        if (v < 0 || v >= DIGITS) {
            return NONE;
        }
        told.clear();
        int resting = 0;
        for (int x = 0; x < DIGITS; x++) {
            for (int y = 0; y < DIGITS; y++) {
                if (isContent(v, x, y) && isContent(v, y, x)) {
                    if (resting == 0) {
                        told.tellTwo(x, y);
                    }
                    resting++;
                }
            }
        }
        return resting;
    }

    private static boolean isContent(int v, int own, int other) {
        int has = gain(v, own, other);
        for (int x = 0; x < DIGITS; x++) {
            if (gain(v, x, other) > has) {
                return false;
            }
        }
        return true;
    }

    private static int gain(int v, int own, int other) {
        return v * own - own * other / 3;
    }

    public int years(int seed, int n) {
        if (n < 1 || n > YEARS_AT_ONCE) {
            return NONE;
        }
        random = seed;
        later.copy(now);
        int seen = 0;
        for (int i = 0; i < n; i++) {
            liveYear();
            for (int room = 0; room < town.rooms; room++) {
                seen += Integer.bitCount(town.seenFrom(later, room));
            }
        }
        told.tellTwo(later.hour, Integer.bitCount(later.broken));
        return seen;
    }

    private void liveYear() {
        int lot = draw(4);
        if (lot < 2) {
            town.walk(later);
        } else if (lot == 2 && town.panes > 0 && town.rooms > 0) {
            int pane = draw(town.panes);
            later.home[pane] = draw(town.rooms);
        } else if (lot == 3 && town.panes > 0) {
            later.broken |= 1 << draw(town.panes);
        }
    }

    private int draw(int n) {
        random = random * 1103515245 + 12345;
        return n > 0 ? (random >>> 16) % n : 0;
    }

    // ---- kept

    public boolean keep(int i) {
        return past.save(i, now);
    }

    public boolean again(int i) {
        return past.restore(i, now);
    }

    public int count(int what) {
        switch (what) {
            case 0: return town.rows;
            case 1: return town.columns;
            case 2: return town.things;
            case 3: return town.panes;
            case 4: return town.rooms;
            case 5: return now.hour;
            case 6: return now.broken;
            case 7: return town.panesHung(now);
            case 8: return witness.size;
            case 9: return past.undoable;
            case 10: return told.size;
            case 11: return text.length;
            default: return NO_SUCH_COUNT;
        }
    }

    public long row(int i) throws NoSuchElementException {
        if (i < 0 || i >= told.size) {
            throw new NoSuchElementException();
        }
        return told.numbers[i];
    }

    private static boolean isSort(int kind, int shame) {
        return kind >= 0 && kind < KINDS && shame >= 0 && shame < DIGITS;
    }

    private static boolean has(int set, int member) {
        return (set >>> member & 1) != 0;
    }

    private static int allOf(int n) {
        return (1 << n) - 1;
    }

    /** The first rule, (h=0)*(s<l+1). */
    private static boolean bears(int limit, int hides, int kind, int shame) {
        return (hides >>> kind & 1) == 0 && shame <= limit;
    }

    /** THE TEXT: signs that came and are not read yet. */
    private static final class Text {
        final int[] signs = new int[TEXT_SIGNS];
        int length;

        int add(int v) {
            if (length > TEXT_SIGNS - 4) {
                return NONE;
            }
            for (int i = 0; i < 4; i++) {
                signs[length + i] = v >>> 24 - 8 * i & 255;
            }
            length += 4;
            return length;
        }

        boolean cut(int n) {
            if (n < 0 || n > length) {
                return false;
            }
            length = n;
            return true;
        }

        void clear() {
            length = 0;
        }

        boolean isEmpty() {
            return length == 0;
        }
    }

    /** Goes over THE TEXT from its first sign on; behind the first fault it finds no signs any more. */
    private static final class Reader {
        final Text text;
        int most;
        int place;
        int fault;

        Reader(Text text) {
            this.text = text;
        }

        void open(int mostSigns) {
            most = mostSigns;
            place = 0;
            fault = NONE;
        }

        int peek() {
            boolean over = fault != NONE || place >= most || place >= text.length;
            return over ? NO_SIGN : text.signs[place];
        }

        /** Unless it fits, the sign here is a fault. */
        boolean demand(boolean fits) {
            if (!fits && fault == NONE) {
                fault = place;
            }
            return fault == NONE;
        }

        boolean passes(int sign) {
            if (peek() != sign) {
                return false;
            }
            place++;
            return true;
        }

        /** How far the sign here is behind a first one of so many. */
        int signFrom(int firstOne, int many) {
            int value = peek() - firstOne;
            if (!demand(value >= 0 && value < many)) {
                return 0;
            }
            place++;
            return value;
        }

        int digit(int below) {
            return signFrom('0', below);
        }

        boolean atDigit() {
            return peek() >= '0' && peek() <= '9';
        }

        int heading() {
            int value = headingOf(peek());
            if (!demand(value != NONE)) {
                return STAY;
            }
            place++;
            return value;
        }

        private static int headingOf(int sign) {
            switch (sign) {
                case 'u': return 0;
                case 'r': return 1;
                case 'd': return 2;
                case 'l': return 3;
                case 's': return STAY;
                default: return NONE;
            }
        }

        /** Rising letters; one that does not rise is left for whoever wants the sign behind them. */
        int kinds() {
            int bits = 0;
            for (int kind = 0; kind < KINDS; kind++) {
                if (passes('a' + kind)) {
                    bits |= 1 << kind;
                }
            }
            return bits;
        }

        /** Whether another LINE begins here. */
        boolean another() {
            return peek() != NO_SIGN && demand(passes(';'));
        }

        void passAct() {
            int sign = peek();
            boolean oneDigit = sign == 'h' || sign == 'o' || sign == 'b';
            int digits = oneDigit ? 1 : sign == 'p' ? 2 : sign == 'c' ? 3 : 0;
            if (!demand(digits > 0)) {
                return;
            }
            place++;
            for (int i = 0; i < digits; i++) {
                digit(DIGITS);
            }
            if (sign == 'c') {
                heading();
            }
        }

        /** Signs that nobody went over are too many. */
        int firstFault() {
            demand(place >= text.length);
            return fault;
        }

        int answer(int withoutFault) {
            int p = firstFault();
            return p == NONE ? withoutFault : -1 - p;
        }
    }

    /** A RULE as signs behind their operands; without any it is the first rule. */
    private static final class Rule {
        private static final int NUMBER = 1000;
        private static final int NEGATE = '~';
        private static final int NESTED = 4;
        private static final int NUMBER_DIGITS = 3;

        private final int[] code = new int[RULE_SIGNS];
        private final int[] stack = new int[RULE_SIGNS];
        private int size;

        void clear() {
            size = 0;
        }

        void read(Reader reader) {
            readComparison(reader, 0);
        }

        private void emit(int sign) {
            if (size < RULE_SIGNS) {
                code[size] = sign;
                size++;
            }
        }

        private void readComparison(Reader reader, int depth) {
            readSum(reader, depth);
            int sign = reader.peek();
            if (sign == '<' || sign == '>' || sign == '=') {
                reader.passes(sign);
                readSum(reader, depth);
                emit(sign);
            }
        }

        private void readSum(Reader reader, int depth) {
            readProduct(reader, depth);
            for (int i = 0; i < RULE_SIGNS; i++) {
                int sign = reader.peek();
                if (sign != '+' && sign != '-') {
                    return;
                }
                reader.passes(sign);
                readProduct(reader, depth);
                emit(sign);
            }
        }

        private void readProduct(Reader reader, int depth) {
            readNegated(reader, depth);
            for (int i = 0; i < RULE_SIGNS; i++) {
                int sign = reader.peek();
                if (sign != '*' && sign != '/') {
                    return;
                }
                reader.passes(sign);
                readNegated(reader, depth);
                emit(sign);
            }
        }

        private void readNegated(Reader reader, int depth) {
            boolean negated = false;
            for (int i = 0; i < RULE_SIGNS && reader.passes('-'); i++) {
                negated = !negated;
            }
            readOperand(reader, depth);
            if (negated) {
                emit(NEGATE);
            }
        }

        private void readOperand(Reader reader, int depth) {
            int sign = reader.peek();
            if (sign == '(') {
                if (reader.demand(depth < NESTED)) {
                    reader.passes('(');
                    readComparison(reader, depth + 1);
                    reader.demand(reader.passes(')'));
                }
            } else if (reader.atDigit()) {
                readNumber(reader);
            } else if (reader.demand(isName(sign))) {
                reader.passes(sign);
                emit(sign);
            }
        }

        private void readNumber(Reader reader) {
            int value = 0;
            for (int i = 0; i < NUMBER_DIGITS && reader.atDigit(); i++) {
                value = value * 10 + reader.digit(DIGITS);
            }
            emit(NUMBER + value);
        }

        private static boolean isName(int sign) {
            return sign == 'k' || sign == 's' || sign == 'l' || sign == 'h' || sign == 'n' || sign == 't';
        }

        boolean lets(int limit, int hides, int kind, int shame, int hour) {
            if (size == 0) {
                return bears(limit, hides, kind, shame);
            }
            int top = 0;
            for (int i = 0; i < size; i++) {
                int sign = code[i];
                if (sign == NEGATE && top > 0) {
                    stack[top - 1] = -stack[top - 1];
                } else if (sign >= NUMBER && top < RULE_SIGNS) {
                    stack[top] = sign - NUMBER;
                    top++;
                } else if (isName(sign) && top < RULE_SIGNS) {
                    stack[top] = named(sign, limit, hides, kind, shame, hour);
                    top++;
                } else if (top > 1) {
                    top--;
                    stack[top - 1] = joined(sign, stack[top - 1], stack[top]);
                }
            }
            return stack[0] != 0;
        }

        private static int named(int sign, int limit, int hides, int kind, int shame, int hour) {
            switch (sign) {
                case 'k': return kind;
                case 's': return shame;
                case 'l': return limit;
                case 'h': return hides >>> kind & 1;
                case 'n': return Integer.bitCount(hides);
                default: return hour % HOURS_OF_DAY;
            }
        }

        private static int joined(int sign, int a, int b) {
            switch (sign) {
                case '+': return a + b;
                case '-': return a - b;
                case '*': return a * b;
                case '/': return b == 0 ? 0 : a / b;
                case '<': return a < b ? 1 : 0;
                case '>': return a > b ? 1 : 0;
                default: return a == b ? 1 : 0;
            }
        }
    }

    /** What acts and hours change, and undo() and again() bring back. */
    private static final class Moment {
        static final int SIZE = 2 * THINGS + PANES + 2;

        final int[] field = new int[THINGS];
        final int[] heading = new int[THINGS];
        final int[] home = new int[PANES];
        int broken;
        int hour;

        void clear() {
            broken = 0;
            hour = 0;
        }

        boolean isBroken(int pane) {
            return has(broken, pane);
        }

        void copy(Moment other) {
            System.arraycopy(other.field, 0, field, 0, THINGS);
            System.arraycopy(other.heading, 0, heading, 0, THINGS);
            System.arraycopy(other.home, 0, home, 0, PANES);
            broken = other.broken;
            hour = other.hour;
        }

        void write(int[] store, int slot) {
            int at = slot * SIZE;
            if (at < 0 || at > store.length - SIZE) {
                return;
            }
            System.arraycopy(field, 0, store, at, THINGS);
            System.arraycopy(heading, 0, store, at + THINGS, THINGS);
            System.arraycopy(home, 0, store, at + 2 * THINGS, PANES);
            store[at + SIZE - 2] = broken;
            store[at + SIZE - 1] = hour;
        }

        void read(int[] store, int slot) {
            int at = slot * SIZE;
            if (at < 0 || at > store.length - SIZE) {
                return;
            }
            System.arraycopy(store, at, field, 0, THINGS);
            System.arraycopy(store, at + THINGS, heading, 0, THINGS);
            System.arraycopy(store, at + 2 * THINGS, home, 0, PANES);
            broken = store[at + SIZE - 2];
            hour = store[at + SIZE - 1];
        }
    }

    /** THE SQUARE and what is told of it by texts, with THE RULE; where things are stands in a Moment. */
    private static final class Town {
        int rows = 1;
        int columns = 1;
        int things;
        int panes;
        int rooms;
        final int[] kind = new int[THINGS];
        final int[] shame = new int[THINGS];
        final int[] limit = new int[PANES];
        final int[] hides = new int[PANES];
        final int[] place = new int[ROOMS];
        final int[] range = new int[ROOMS];
        Rule rule = new Rule();

        void lay(int newRows, int newColumns) {
            rows = newRows;
            columns = newColumns;
            things = 0;
            panes = 0;
            rooms = 0;
        }

        boolean isThing(int thing) {
            return thing >= 0 && thing < things;
        }

        boolean isPane(int pane) {
            return pane >= 0 && pane < panes;
        }

        boolean isRoom(int room) {
            return room >= 0 && room < rooms;
        }

        boolean isField(int field) {
            return field >= 0 && field < fields();
        }

        boolean areThings(int bits) {
            return (bits & ~allThings()) == 0;
        }

        int fields() {
            return rows * columns;
        }

        int allThings() {
            return allOf(things);
        }

        /** LINES are written behind those that stand, and count only once the last one is right and none is too many. */
        int readThings(Reader reader, Moment now) {
            int last = things;
            boolean more = true;
            for (; more && last < THINGS; last++) {
                kind[last] = reader.signFrom('a', KINDS);
                shame[last] = reader.digit(DIGITS);
                now.field[last] = readField(reader);
                now.heading[last] = reader.heading();
                more = reader.another();
            }
            reader.demand(!more);
            int answer = reader.answer(last - things);
            things += Math.max(0, answer);
            return answer;
        }

        int readPanes(Reader reader, Moment now) {
            int last = panes;
            boolean more = true;
            for (; more && last < PANES; last++) {
                limit[last] = reader.digit(DIGITS);
                hides[last] = reader.kinds();
                now.home[last] = NONE;
                more = reader.another();
            }
            reader.demand(!more);
            int answer = reader.answer(last - panes);
            panes += Math.max(0, answer);
            return answer;
        }

        int readRooms(Reader reader) {
            int last = rooms;
            boolean more = true;
            for (; more && last < ROOMS; last++) {
                place[last] = readField(reader);
                range[last] = reader.digit(DIGITS);
                more = reader.another();
            }
            reader.demand(!more);
            int answer = reader.answer(last - rooms);
            rooms += Math.max(0, answer);
            return answer;
        }

        private int readField(Reader reader) {
            int row = reader.digit(rows);
            return row * columns + reader.digit(columns);
        }

        int setShames(int sheetKind, int n, int f, int step) {
            int sum = 0;
            for (int thing = 0; thing < things; thing++) {
                shame[thing] = thing < n ? shameOf(sheetKind, f + thing * step) : 0;
                sum += shame[thing];
            }
            return sum;
        }

        private static int shameOf(int sheetKind, int entry) {
            int value = sheetKind == 0 ? (byte) entry : sheetKind == 1 ? (short) entry : entry;
            return Math.max(0, Math.min(DIGITS - 1, value));
        }

        /** AN HOUR. */
        void walk(Moment moment) {
            for (int thing = 0; thing < things; thing++) {
                int heading = moment.heading[thing];
                int beside = fieldBeside(moment.field[thing], heading);
                if (beside != NONE) {
                    moment.field[thing] = beside;
                } else if (heading != STAY) {
                    moment.heading[thing] = heading ^ 2;
                }
            }
            moment.hour++;
        }

        int fieldBeside(int field, int heading) {
            int row = rowOf(field);
            int column = columnOf(field);
            switch (heading) {
                case 0: return row > 0 ? field - columns : NONE;
                case 1: return column < columns - 1 ? field + 1 : NONE;
                case 2: return row < rows - 1 ? field + columns : NONE;
                case 3: return column > 0 ? field - 1 : NONE;
                default: return NONE;
            }
        }

        private int rowOf(int field) {
            return columns > 0 ? field / columns : 0;
        }

        private int columnOf(int field) {
            return columns > 0 ? field % columns : 0;
        }

        boolean reaches(int room, int field) {
            int down = Math.abs(rowOf(place[room]) - rowOf(field));
            int along = Math.abs(columnOf(place[room]) - columnOf(field));
            return down + along <= range[room];
        }

        int near(Moment moment, int room) {
            int bits = 0;
            for (int thing = 0; thing < things; thing++) {
                if (reaches(room, moment.field[thing])) {
                    bits |= 1 << thing;
                }
            }
            return bits;
        }

        int thingsOn(Moment moment, int field) {
            int bits = 0;
            for (int thing = 0; thing < things; thing++) {
                if (moment.field[thing] == field) {
                    bits |= 1 << thing;
                }
            }
            return bits;
        }

        int panesIn(Moment moment, int room) {
            int bits = 0;
            for (int pane = 0; pane < panes; pane++) {
                if (moment.home[pane] == room) {
                    bits |= 1 << pane;
                }
            }
            return bits;
        }

        int panesHung(Moment moment) {
            return allOf(panes) & ~panesIn(moment, NONE);
        }

        int panesHiding(int kinds) {
            int bits = 0;
            for (int pane = 0; pane < panes; pane++) {
                if ((kinds & ~hides[pane]) == 0) {
                    bits |= 1 << pane;
                }
            }
            return bits;
        }

        /** The HOUR is told beside the Moment, since slips() looks at later ones while all hangs as now. */
        boolean lets(Moment moment, int hour, int pane, int someKind, int someShame) {
            return moment.isBroken(pane) || rule.lets(limit[pane], hides[pane], someKind, someShame, hour);
        }

        int through(Moment moment, int pane, int among) {
            int bits = 0;
            for (int thing = 0; thing < things; thing++) {
                if (has(among, thing) && lets(moment, moment.hour, pane, kind[thing], shame[thing])) {
                    bits |= 1 << thing;
                }
            }
            return bits;
        }

        int pairsThrough(Moment moment) {
            int pairs = 0;
            for (int pane = 0; pane < panes; pane++) {
                pairs += Integer.bitCount(through(moment, pane, allThings()));
            }
            return pairs;
        }

        int seenFrom(Moment moment, int room) {
            return seenOf(moment, room, allThings());
        }

        private int seenOf(Moment moment, int room, int among) {
            int near = among & near(moment, room);
            int seen = 0;
            for (int pane = 0; pane < panes; pane++) {
                if (moment.home[pane] == room) {
                    seen |= through(moment, pane, near & ~seen);
                }
            }
            return seen;
        }

        boolean sees(Moment moment, int room, int thing) {
            return seenOf(moment, room, 1 << thing) != 0;
        }

        int roomsSeeing(Moment moment, int thing) {
            int bits = 0;
            for (int room = 0; room < rooms; room++) {
                if (seenOf(moment, room, 1 << thing) != 0) {
                    bits |= 1 << room;
                }
            }
            return bits;
        }
    }

    /** Moments that undo() and again() bring back. */
    private static final class Past {
        private final int[] undos = new int[UNDONE * Moment.SIZE];
        private final int[] keeps = new int[KEPT * Moment.SIZE];
        private int kept;
        int undoable;

        void forgetAll() {
            undoable = 0;
            kept = 0;
        }

        void push(Moment moment) {
            if (undoable >= UNDONE) {
                undoable = UNDONE - 1;
                System.arraycopy(undos, Moment.SIZE, undos, 0, undoable * Moment.SIZE);
            }
            moment.write(undos, undoable);
            undoable++;
        }

        int pop(Moment moment) {
            if (undoable == 0) {
                return NONE;
            }
            undoable--;
            moment.read(undos, undoable);
            return undoable;
        }

        boolean save(int i, Moment moment) {
            if (i < 0 || i >= KEPT) {
                return false;
            }
            moment.write(keeps, i);
            kept |= 1 << i;
            return true;
        }

        boolean restore(int i, Moment moment) {
            if (i < 0 || i >= KEPT || !has(kept, i)) {
                return false;
            }
            moment.read(keeps, i);
            undoable = 0;
            return true;
        }
    }

    /** The ROW. */
    private static final class Numbers {
        final long[] numbers = new long[FIELDS];
        int size;

        void clear() {
            size = 0;
        }

        void add(long number) {
            if (size < FIELDS) {
                numbers[size] = number;
                size++;
            }
        }

        void join(int i, long bits) {
            if (i >= 0 && i < size) {
                numbers[i] |= bits;
            }
        }

        void tellOne(long number) {
            clear();
            add(number);
        }

        void tellTwo(long number, long second) {
            clear();
            add(number);
            add(second);
        }
    }

    /** Sets of THINGS, one for each PANE or ROOM, of which some are chosen. */
    private static final class Parts {
        private final int[] part = new int[PANES];
        private int size;

        void clear() {
            size = 0;
        }

        void add(int bits) {
            if (size < PANES) {
                part[size] = bits;
                size++;
            }
        }

        int union(int chosen) {
            int bits = 0;
            for (int i = 0; i < size; i++) {
                if (has(chosen, i)) {
                    bits |= part[i];
                }
            }
            return bits;
        }

        /** The fewest parts that have all of yes and none of no; sets rise, so of as few the least stays. */
        int fewest(int yes, int no) {
            int best = NONE;
            int fewest = PANES + 1;
            for (int chosen = 0; chosen <= allOf(size); chosen++) {
                int bits = union(chosen);
                boolean right = (yes & ~bits) == 0 && (no & bits) == 0;
                if (right && Integer.bitCount(chosen) < fewest) {
                    best = chosen;
                    fewest = Integer.bitCount(chosen);
                }
            }
            return best;
        }
    }

    /** Ways over FIELDS (bits) that no ROOM sees. */
    private static final class Ways {
        private final Town town;
        private final long[] rings = new long[FIELDS];

        Ways(Town town) {
            this.town = town;
        }

        long unseen(Moment moment, int hour, int kind, int shame) {
            long fields = 0;
            int watching = roomsLetting(moment, hour, kind, shame);
            for (int field = 0; field < town.fields(); field++) {
                if (!isReached(watching, field)) {
                    fields |= 1L << field;
                }
            }
            return fields;
        }

        private int roomsLetting(Moment moment, int hour, int kind, int shame) {
            int rooms = 0;
            for (int pane = 0; pane < town.panes; pane++) {
                int home = moment.home[pane];
                if (home != NONE && !has(rooms, home) && town.lets(moment, hour, pane, kind, shame)) {
                    rooms |= 1 << home;
                }
            }
            return rooms;
        }

        private boolean isReached(int watching, int field) {
            for (int room = 0; room < town.rooms; room++) {
                if (has(watching, room) && town.reaches(room, field)) {
                    return true;
                }
            }
            return false;
        }

        long beside(long fields) {
            long bits = 0;
            for (int field = 0; field < town.fields(); field++) {
                if ((fields >>> field & 1) != 0) {
                    bits |= besideOne(field);
                }
            }
            return bits;
        }

        private long besideOne(int field) {
            long bits = 0;
            for (int heading = 0; heading < STAY; heading++) {
                int other = town.fieldBeside(field, heading);
                if (other != NONE) {
                    bits |= 1L << other;
                }
            }
            return bits;
        }

        int tellShortest(long open, int from, int to, Numbers told) {
            int steps = stepsBetween(open, from, to);
            if (steps == NONE) {
                return NOT_SO;
            }
            told.tellOne(from);
            int field = from;
            for (int ring = steps - 1; ring >= 0; ring--) {
                field = lowest(besideOne(field) & rings[ring]);
                told.add(field);
            }
            return steps;
        }

        /** Rings are laid round the goal, so that from the start each least FIELD of the next ring is the least way. */
        private int stepsBetween(long open, int from, int to) {
            long free = open;
            long ring = 1L << to & free;
            for (int steps = 0; steps < FIELDS && ring != 0; steps++) {
                rings[steps] = ring;
                if ((ring >>> from & 1) != 0) {
                    return steps;
                }
                free &= ~ring;
                ring = beside(ring) & free;
            }
            return NONE;
        }

        private static int lowest(long bits) {
            return Long.bitCount((bits & -bits) - 1);
        }
    }

    /** What was watched through one WHOLE PANE, and the laws that fit it. */
    private static final class Witness {
        private final int[] kind = new int[WATCHED];
        private final int[] shame = new int[WATCHED];
        private final boolean[] seen = new boolean[WATCHED];
        int size;
        private int shown;
        private final int[] hiddenBy = new int[DIGITS];
        private final int[] fittingBy = new int[DIGITS];

        int add(int someKind, int someShame, boolean wasSeen) {
            if (size >= WATCHED) {
                return NONE;
            }
            kind[size] = someKind;
            shame[size] = someShame;
            seen[size] = wasSeen;
            size++;
            return size;
        }

        int clear() {
            int had = size;
            size = 0;
            return had;
        }

        boolean allows(int limit, int hides) {
            for (int i = 0; i < size; i++) {
                if (bears(limit, hides, kind[i], shame[i]) != seen[i]) {
                    return false;
                }
            }
            return true;
        }

        /** How many laws fit; by LIMIT, a KIND that need be neither hidden nor shown doubles them. */
        int weigh() {
            int fitting = 0;
            for (int limit = 0; limit < DIGITS; limit++) {
                force(limit);
                int forced = hiddenBy[limit] | shown;
                boolean fits = allows(limit, hiddenBy[limit]);
                fittingBy[limit] = fits ? 1 << KINDS - Integer.bitCount(forced) : 0;
                fitting += fittingBy[limit];
            }
            return fitting;
        }

        private void force(int limit) {
            shown = 0;
            hiddenBy[limit] = 0;
            for (int i = 0; i < size; i++) {
                if (seen[i]) {
                    shown |= 1 << kind[i];
                } else if (shame[i] <= limit) {
                    hiddenBy[limit] |= 1 << kind[i];
                }
            }
        }

        int hiddenAt(int limit) {
            return limit >= 0 && limit < DIGITS ? hiddenBy[limit] : 0;
        }

        /** The LIMIT of the fitting law with the fewest KINDS; by each LIMIT that law hides what it must. */
        int mildestLimit() {
            int best = NONE;
            int fewest = KINDS;
            for (int limit = 0; limit < DIGITS; limit++) {
                int kinds = Integer.bitCount(hiddenBy[limit]);
                if (fittingBy[limit] > 0 && kinds <= fewest) {
                    best = limit;
                    fewest = kinds;
                }
            }
            return best;
        }

        /** How many of the weighed laws are left, once a THING of this sort is seen. */
        int fittingIfSeen(int someKind, int someShame) {
            int left = 0;
            for (int limit = Math.max(0, someShame); limit < DIGITS; limit++) {
                if (has(shown, someKind)) {
                    left += fittingBy[limit];
                } else if (!has(hiddenBy[limit], someKind)) {
                    left += fittingBy[limit] / 2;
                }
            }
            return left;
        }
    }

    /** Claims, each with the PANES (bits) that it can have. */
    private static final class Heirs {
        private final int[] wanted = new int[CLAIMS];
        private final int[] owner = new int[PANES];
        private int size;
        private int tried;

        void clear() {
            size = 0;
        }

        void add(int panes) {
            if (size < CLAIMS) {
                wanted[size] = panes;
                size++;
            }
        }

        int tellMost(Numbers told) {
            int free = allOf(PANES);
            int most = served(0, free);
            int open = most;
            told.clear();
            for (int claim = 0; claim < size; claim++) {
                int pane = leastFor(claim, free, open);
                told.add(pane);
                if (pane != NONE) {
                    free &= ~(1 << pane);
                    open--;
                }
            }
            return most;
        }

        /** NONE is the least of all: a claim goes without, if those behind it can still be as many. */
        private int leastFor(int claim, int free, int open) {
            if (served(claim + 1, free) >= open) {
                return NONE;
            }
            for (int pane = 0; pane < PANES; pane++) {
                boolean fits = has(wanted[claim] & free, pane);
                if (fits && served(claim + 1, free & ~(1 << pane)) >= open - 1) {
                    return pane;
                }
            }
            return NONE;
        }

        /** The most claims from one on that can each have another of the free PANES. */
        private int served(int from, int free) {
            Arrays.fill(owner, NONE);
            int most = 0;
            for (int claim = from; claim < size; claim++) {
                tried = 0;
                if (finds(claim, free, 0)) {
                    most++;
                }
            }
            return most;
        }

        /** A PANE that has an owner is had, if its owner finds another one. */
        private boolean finds(int claim, int free, int depth) {
            if (depth > CLAIMS || claim < 0 || claim >= size) {
                return false;
            }
            for (int pane = 0; pane < PANES; pane++) {
                if (has(wanted[claim] & free & ~tried, pane)) {
                    tried |= 1 << pane;
                    if (owner[pane] == NONE || finds(owner[pane], free, depth + 1)) {
                        owner[pane] = claim;
                        return true;
                    }
                }
            }
            return false;
        }
    }
}
