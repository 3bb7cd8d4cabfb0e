import java.util.NoSuchElementException;

/**
 * A valley of spots with folds between them, and walkers who go along them.
 *
 * All rows are made with the object and used again by every call, because all calls of a run share one
 * room. Every number is kept in a Row, which looks at an index before it uses it.
 */
public final class FoldRoads {
    public static final int NONE = -1;

    private static final int MOST_SPOTS = 8;
    private static final int MOST_FOLDS = 12;
    private static final int MOST_THINGS = 6;
    private static final int MOST_WALKERS = 5;
    private static final int KINDS = 3;
    private static final int MOST_FOLD_NUMBER = 11;
    private static final int MOST_DEPTH = 9;
    private static final int MOST_PACE = 5;
    private static final int LEAST_BREATH = 2;
    private static final int MOST_BREATH = 40;
    private static final int USUAL_BREATH = 12;

    private static final int LAST_HOUR = 400;
    private static final int MOST_HOURS = 60;
    private static final int MOST_SLIP = 30;
    private static final int MOST_UNDONE = 8;
    private static final int MOST_SEEDS = 30;
    private static final int HOURS_OF_ODDS = 20;
    private static final int MOST_INN_HOURS = 99;
    private static final int MOST_PAIRS = 6;

    private static final int MOST_TAPE = 940;
    private static final int MOST_VALLEY = 900;
    private static final int MOST_BOOK = 400;
    private static final int MOST_SENTENCE = 200;
    private static final int MOST_LINES = 40;
    private static final int MOST_ONES = 20;
    private static final int MOST_WITHIN = 8;
    private static final int MOST_TAG = 32;
    private static final int NOT_A_BOOK_CALL = -1000;

    // The NAMES of a VALLEY lie in one row: SPOTS, then THINGS, then WALKERS.
    private static final int SPOT_NAMES = 0;
    private static final int THING_NAMES = SPOT_NAMES + MOST_SPOTS;
    private static final int WALKER_NAMES = THING_NAMES + MOST_THINGS;
    private static final int MOST_NAMES = WALKER_NAMES + MOST_WALKERS;

    // The kinds of FAULTS.
    private static final int CANNOT_COME = 1;
    private static final int BAD_NUMBER = 2;
    private static final int BAD_NAME = 3;
    private static final int TOO_MANY = 4;

    // The kinds of TOKENS; a sign is of the kind of its own byte, which is greater than these.
    private static final int END = 0;
    private static final int NO_TOKEN = 1;
    private static final int WORD = 2;
    private static final int NUMERAL = 3;

    // The WORDS that are no NAMES, by their place in this text, each with a blank behind it.
    private static final String WORDS = "spot inn fold thing walker breath laugh worry frown goes learns tells rests cream slip mood hour or and not going housed lost at knows left tired pace number ";
    private static final int SPOT = 0;
    private static final int INN = 1;
    private static final int FOLD = 2;
    private static final int THING = 3;
    private static final int WALKER = 4;
    private static final int BREATH = 5;
    private static final int LAUGH = 6;
    private static final int GOES = 9;
    private static final int LEARNS = 10;
    private static final int TELLS = 11;
    private static final int RESTS = 12;
    private static final int CREAM = 13;
    private static final int SLIP = 14;
    private static final int MOOD = 15;
    private static final int HOUR = 16;
    private static final int OR = 17;
    private static final int AND = 18;
    private static final int NOT = 19;
    private static final int GOING = 20;
    private static final int HOUSED = 21;
    private static final int LOST = 22;
    private static final int AT = 23;
    private static final int KNOWS = 24;
    private static final int LEFT = 25;
    private static final int TIRED = 26;
    private static final int PACE = 27;
    private static final int NUMBER = 28;
    private static final int MANY_WORDS = 29;

    private final Tape tape = new Tape();
    private final World world = new World();
    private final World firstImage = new World();
    private final World secondImage = new World();
    private final State before = new State();
    private final History history = new History();
    private final Surveyor surveyor = new Surveyor();
    private final Book lines = new Book();
    private final Sentence draft = new Sentence();
    private final Roads roads = new Roads();
    private final Tag lastTag = new Tag();

    public FoldRoads() {
    }

    // ---- the texts

    public int feed(int a, int b, int c, int d, int e) {
        if (tape.length + 20 > MOST_TAPE) {
            return NONE;
        }
        tape.addNumber(a);
        tape.addNumber(b);
        tape.addNumber(c);
        tape.addNumber(d);
        tape.addNumber(e);
        return tape.length;
    }

    public boolean end(int n) {
        if (n < 0 || n > tape.length) {
            return false;
        }
        tape.length = n;
        return true;
    }

    public int valley() {
        int read = surveyor.readValley(tape);
        tape.length = 0;
        if (read == NONE) {
            return -1 - tape.faultPlace;
        }
        world.found(surveyor.draft);
        history.forget();
        return read;
    }

    public int fault() {
        return tape.faultKind;
    }

    // ---- what is so

    public int walker(int w, int what) throws NoSuchElementException {
        if (!world.valley.hasWalker(w)) {
            throw new NoSuchElementException();
        }
        switch (what) {
            case 0: return world.state.place.get(w);
            case 1: return world.valley.pace.get(w);
            case 2: return world.state.along.get(w);
            case 3: return world.state.left.get(w);
            case 4: return world.state.tired.get(w);
            case 5: return world.state.known.get(w);
            case 6: return roads.lostWalkers(world) >> w & 1;
            default: throw new NoSuchElementException();
        }
    }

    public int fold(int f, int what) {
        if (!world.valley.hasFold(f)) {
            return NONE;
        }
        switch (what) {
            case 0: return world.valley.oneEnd.get(f);
            case 1: return world.valley.otherEnd.get(f);
            case 2: return world.deepNow(f);
            case 3: return world.valley.kind.get(f);
            case 4: return world.state.slipped.get(f);
            case 5: return world.goersAlong(f);
            default: return NONE;
        }
    }

    public int spot(int s, int what) {
        if (!world.valley.hasSpot(s)) {
            return NONE;
        }
        switch (what) {
            case 0: return world.valley.innSpots >> s & 1;
            case 1: return world.valley.thingsAt(s);
            case 2: return world.valley.foldsAt(s);
            case 3: return world.walkersAt(s);
            default: return NONE;
        }
    }

    public int now(int what) {
        switch (what) {
            case 0: return world.state.hour;
            case 1: return world.state.lifted;
            case 2: return world.goers();
            case 3: return world.slippedFolds();
            case 4: return world.knownThings();
            case 5: return roads.lostWalkers(world);
            case 6: return world.tiredInAll();
            case 7: return world.state.gone;
            default: return NONE;
        }
    }

    public int count(int what) {
        switch (what) {
            case 0: return world.valley.spots;
            case 1: return world.valley.folds;
            case 2: return world.valley.things;
            case 3: return world.valley.walkers;
            case 4: return world.valley.breath;
            case 5: return tape.length;
            default: return NONE;
        }
    }

    // ---- what is done

    public int walk(int w, int f) {
        if (!world.valley.hasWalker(w) || !world.valley.hasFold(f)) {
            return NONE;
        }
        return tryDeed(GOES, w, f, 0);
    }

    public int learn(int w, int t) {
        if (!world.valley.hasWalker(w) || !world.valley.hasThing(t)) {
            return NONE;
        }
        return tryDeed(LEARNS, w, t, 0);
    }

    public int tell(int w, int x) {
        if (!world.valley.hasWalker(w) || !world.valley.hasWalker(x)) {
            return NONE;
        }
        return tryDeed(TELLS, w, x, 0);
    }

    public int rest(int w) {
        return world.valley.hasWalker(w) ? tryDeed(RESTS, w, 0, 0) : NONE;
    }

    public int cream(int f) {
        return world.valley.hasFold(f) ? tryDeed(CREAM, 0, f, 0) : NONE;
    }

    public int slip(int f, int n) {
        if (!world.valley.hasFold(f) || n < 1 || n > MOST_SLIP) {
            return NONE;
        }
        return tryDeed(SLIP, 0, f, n);
    }

    public int mood(int kind) {
        return kind >= 0 && kind < KINDS ? tryDeed(MOOD, 0, kind, 0) : NONE;
    }

    private int tryDeed(int deed, int w, int what, int n) {
        before.become(world.state);
        int why = world.perform(deed, w, what, n);
        if (why == 0) {
            history.keep(before);
        }
        return why;
    }

    public int hours(int n) {
        if (n < 1 || n > MOST_HOURS) {
            return NONE;
        }
        before.become(world.state);
        return keepIfAny(world.passHours(n));
    }

    public int drawn(int n, int seed) {
        if (n < 1 || n > MOST_HOURS) {
            return NONE;
        }
        before.become(world.state);
        return keepIfAny(world.drawHours(n, seed));
    }

    private int keepIfAny(int went) {
        if (went > 0) {
            history.keep(before);
        }
        return went;
    }

    public int undo() {
        return history.takeBack(world.state) ? history.size : NONE;
    }

    public int odds(int w, int n, int seed) {
        if (!world.valley.hasWalker(w) || n < 1 || n > MOST_SEEDS) {
            return NONE;
        }
        before.become(world.state);
        int many = 0;
        for (int i = 0; i < n; i++) {
            world.drawHours(HOURS_OF_ODDS, seed + i);
            if ((world.state.known.get(w) & ~before.known.get(w)) != 0) {
                many++;
            }
            world.state.become(before);
        }
        return many;
    }

    // ---- what is reckoned

    public int takes(int w, int f) {
        if (!world.valley.hasWalker(w) || !world.valley.hasFold(f)) {
            return NONE;
        }
        return world.hoursOn(f, world.valley.pace.get(w));
    }

    public int way(int w, int s) {
        if (!canSetOut(w) || !world.valley.hasSpot(s)) {
            return NONE;
        }
        return roads.findWay(world, w, s);
    }

    public int wayAt(int k) {
        return k >= 0 && k < roads.wayLength ? roads.wayFolds.get(k) : NONE;
    }

    public int reaches(int w) {
        return canSetOut(w) ? roads.reachedBy(world, w) : NONE;
    }

    public int gather(int w) {
        return canSetOut(w) ? roads.findOrder(world, w) : NONE;
    }

    public int gatherAt(int k) {
        return k >= 0 && k < roads.orderLength ? roads.order.get(k) : NONE;
    }

    public int meet(int w, int x) {
        return canSetOut(w) && canSetOut(x) ? roads.findMeeting(world, w, x) : NONE;
    }

    public int meetAt() {
        return roads.meetingSpot;
    }

    private boolean canSetOut(int w) {
        return world.valley.hasWalker(w) && !world.isGoing(w);
    }

    public int inns(int n) {
        return n >= 0 && n <= MOST_INN_HOURS ? roads.findInns(world, n) : NONE;
    }

    public int innsAt() {
        return roads.moreInns;
    }

    public int came() {
        int from = roads.findOrigins(world, tape);
        tape.length = 0;
        return from;
    }

    public int ask() {
        return roads.askingSpot;
    }

    public int mean(int s, int what) throws NoSuchElementException {
        int many = world.valley.hasSpot(s) ? Integer.bitCount(world.valley.foldsAt(s)) : 0;
        if (many == 0 || what < 0 || what > 1) {
            throw new NoSuchElementException();
        }
        int deep = world.deepInAll(s);
        int told = what == 0 ? deep : many;
        for (int part = many; part > 1; part--) {
            if (deep % part == 0 && many % part == 0) {
                return told / part;
            }
        }
        return told;
    }

    public int tag(int w) {
        if (!world.valley.hasWalker(w)) {
            return NONE;
        }
        lastTag.write(world, w, (roads.lostWalkers(world) >> w & 1) == 1);
        return lastTag.length;
    }

    public int byteAt(int i) {
        return i >= 0 && i < lastTag.length ? lastTag.bytes.get(i) : NONE;
    }

    // ---- books and sentences

    public int book(int lives) {
        if (lives != 0 && lives != 1) {
            return NOT_A_BOOK_CALL;
        }
        boolean read = lines.readBook(tape, world.valley);
        tape.length = 0;
        if (!read) {
            return -2 - tape.faultPlace;
        }
        before.become(world.state);
        int wrong = lines.live(world);
        if (lives == 0) {
            world.state.become(before);
        } else if (lines.ahead > 0) {
            history.keep(before);
        }
        return wrong;
    }

    public int told(int what) {
        if (!lines.lived) {
            return NONE;
        }
        switch (what) {
            case 0: return lines.why;
            case 1: return lines.ahead;
            case 2: return lines.hourThen;
            case 3: return lines.knownThen;
            default: return NONE;
        }
    }

    public int sentence() {
        boolean read = draft.readSentence(tape, world.valley);
        tape.length = 0;
        if (!read) {
            return -1 - tape.faultPlace;
        }
        world.condition.become(draft);
        return draft.ones;
    }

    public int said(int k) {
        if (world.condition.ones == 0) {
            return NONE;
        }
        int those = world.condition.those(world, roads.lostWalkers(world));
        return k == NONE ? Integer.bitCount(those) : bitPlace(those, k);
    }

    /** The place of the k-th bit that is set. */
    private static int bitPlace(int bits, int k) {
        int seen = 0;
        for (int i = 0; i < MOST_WALKERS; i++) {
            if ((bits >> i & 1) == 1) {
                if (seen == k) {
                    return i;
                }
                seen++;
            }
        }
        return NONE;
    }

    // ---- images

    public boolean image(int k) {
        World kept = imagePlace(k);
        if (kept == null) {
            return false;
        }
        kept.become(world);
        kept.isKept = true;
        return true;
    }

    public boolean restore(int k) {
        World kept = imagePlace(k);
        if (kept == null || !kept.isKept) {
            return false;
        }
        world.become(kept);
        history.forget();
        return true;
    }

    private World imagePlace(int k) {
        switch (k) {
            case 0: return firstImage;
            case 1: return secondImage;
            default: return null;
        }
    }

    /** Numbers in a row. Where it has no place it answers 0 and keeps nothing, so no index can throw. */
    private static final class Row {
        private final int[] cells;

        Row(int size) {
            cells = new int[size < 0 ? 0 : size];
        }

        int get(int i) {
            return i >= 0 && i < cells.length ? cells[i] : 0;
        }

        void put(int i, int x) {
            if (i >= 0 && i < cells.length) {
                cells[i] = x;
            }
        }

        void add(int i, int x) {
            if (i >= 0 && i < cells.length) {
                cells[i] += x;
            }
        }

        void fill(int x) {
            for (int i = 0; i < cells.length; i++) {
                cells[i] = x;
            }
        }

        void become(Row other) {
            for (int i = 0; i < cells.length; i++) {
                cells[i] = other.get(i);
            }
        }
    }

    /** What a VALLEY's text tells; it does not change while hours go by. */
    private static final class Valley {
        int spots;
        int folds;
        int things;
        int walkers;
        int breath = USUAL_BREATH;
        int innSpots;
        final Row oneEnd = new Row(MOST_FOLDS);
        final Row otherEnd = new Row(MOST_FOLDS);
        final Row depth = new Row(MOST_FOLDS);
        final Row kind = new Row(MOST_FOLDS);
        final Row thingSpot = new Row(MOST_THINGS);
        final Row home = new Row(MOST_WALKERS);
        final Row pace = new Row(MOST_WALKERS);
        private final long[] names = new long[MOST_NAMES];

        void empty() {
            spots = 0;
            folds = 0;
            things = 0;
            walkers = 0;
            breath = USUAL_BREATH;
            innSpots = 0;
            for (int i = 0; i < names.length; i++) {
                names[i] = 0;
            }
        }

        void become(Valley other) {
            spots = other.spots;
            folds = other.folds;
            things = other.things;
            walkers = other.walkers;
            breath = other.breath;
            innSpots = other.innSpots;
            oneEnd.become(other.oneEnd);
            otherEnd.become(other.otherEnd);
            depth.become(other.depth);
            kind.become(other.kind);
            thingSpot.become(other.thingSpot);
            home.become(other.home);
            pace.become(other.pace);
            for (int i = 0; i < names.length; i++) {
                names[i] = other.nameAt(i);
            }
        }

        boolean hasSpot(int s) {
            return s >= 0 && s < spots;
        }

        boolean hasFold(int f) {
            return f >= 0 && f < folds;
        }

        boolean hasThing(int t) {
            return t >= 0 && t < things;
        }

        boolean hasWalker(int w) {
            return w >= 0 && w < walkers;
        }

        long nameAt(int i) {
            return i >= 0 && i < names.length ? names[i] : 0;
        }

        void setName(int i, long name) {
            if (i >= 0 && i < names.length) {
                names[i] = name;
            }
        }

        /** Where a NAME lies in the row of NAMES; NONE: it is not told. */
        int placeOfName(long name) {
            for (int i = 0; i < names.length; i++) {
                if (names[i] == name) {
                    return i;
                }
            }
            return NONE;
        }

        /** The SPOT to which a FOLD leads from s; NONE: it does not lead from there. */
        int across(int f, int s) {
            if (oneEnd.get(f) == s) {
                return otherEnd.get(f);
            }
            return otherEnd.get(f) == s ? oneEnd.get(f) : NONE;
        }

        boolean areJoined(int s, int other) {
            for (int f = 0; f < folds; f++) {
                if (across(f, s) == other) {
                    return true;
                }
            }
            return false;
        }

        int thingsAt(int s) {
            int bits = 0;
            for (int t = 0; t < things; t++) {
                if (thingSpot.get(t) == s) {
                    bits |= 1 << t;
                }
            }
            return bits;
        }

        int foldsAt(int s) {
            int bits = 0;
            for (int f = 0; f < folds; f++) {
                if (across(f, s) != NONE) {
                    bits |= 1 << f;
                }
            }
            return bits;
        }
    }

    /** All that deeds and hours change. */
    private static final class State {
        int hour;
        int lifted = NONE;
        int gone;
        /** Where a WALKER is; of one who is GOING, the SPOT to which he is. */
        final Row place = new Row(MOST_WALKERS);
        final Row along = new Row(MOST_WALKERS);
        final Row left = new Row(MOST_WALKERS);
        final Row tired = new Row(MOST_WALKERS);
        final Row known = new Row(MOST_WALKERS);
        /** How deep a FOLD is, whatever the MOOD. */
        final Row depth = new Row(MOST_FOLDS);
        final Row slipped = new Row(MOST_FOLDS);

        void begin(Valley valley) {
            hour = 0;
            lifted = NONE;
            gone = 0;
            place.become(valley.home);
            along.fill(NONE);
            left.fill(0);
            tired.fill(0);
            known.fill(0);
            depth.become(valley.depth);
            slipped.fill(0);
        }

        void become(State other) {
            hour = other.hour;
            lifted = other.lifted;
            gone = other.gone;
            place.become(other.place);
            along.become(other.along);
            left.become(other.left);
            tired.become(other.tired);
            known.become(other.known);
            depth.become(other.depth);
            slipped.become(other.slipped);
        }
    }

    /** A VALLEY, what is so in it, and the SENTENCE: all that an image keeps. */
    private static final class World {
        final Valley valley = new Valley();
        final State state = new State();
        final Sentence condition = new Sentence();
        boolean isKept;
        private int seed;

        void found(Valley told) {
            valley.become(told);
            state.begin(valley);
            condition.forget();
        }

        void become(World other) {
            valley.become(other.valley);
            state.become(other.state);
            condition.become(other.condition);
        }

        boolean isGoing(int w) {
            return state.left.get(w) > 0;
        }

        boolean isAt(int w, int s) {
            return !isGoing(w) && state.place.get(w) == s;
        }

        boolean isHoused(int w) {
            return !isGoing(w) && (valley.innSpots >> state.place.get(w) & 1) == 1;
        }

        int deepNow(int f) {
            int depth = state.depth.get(f);
            return valley.kind.get(f) == state.lifted && depth > 1 ? depth - 1 : depth;
        }

        /** How many HOURS a FOLD takes by a PACE now, cut up. */
        int hoursOn(int f, int pace) {
            return pace < 1 ? 0 : (deepNow(f) + pace - 1) / pace;
        }

        int deepInAll(int s) {
            int deep = 0;
            for (int f = 0; f < valley.folds; f++) {
                if (valley.across(f, s) != NONE) {
                    deep += deepNow(f);
                }
            }
            return deep;
        }

        int goersAlong(int f) {
            int bits = 0;
            for (int w = 0; w < valley.walkers; w++) {
                if (isGoing(w) && state.along.get(w) == f) {
                    bits |= 1 << w;
                }
            }
            return bits;
        }

        int walkersAt(int s) {
            int bits = 0;
            for (int w = 0; w < valley.walkers; w++) {
                if (isAt(w, s)) {
                    bits |= 1 << w;
                }
            }
            return bits;
        }

        int goers() {
            int bits = 0;
            for (int w = 0; w < valley.walkers; w++) {
                if (isGoing(w)) {
                    bits |= 1 << w;
                }
            }
            return bits;
        }

        int slippedFolds() {
            int bits = 0;
            for (int f = 0; f < valley.folds; f++) {
                if (state.slipped.get(f) > 0) {
                    bits |= 1 << f;
                }
            }
            return bits;
        }

        int knownThings() {
            int bits = 0;
            for (int w = 0; w < valley.walkers; w++) {
                bits |= state.known.get(w);
            }
            return bits;
        }

        int tiredInAll() {
            int all = 0;
            for (int w = 0; w < valley.walkers; w++) {
                all += state.tired.get(w);
            }
            return all;
        }

        /** Does a deed told by its WORD: 0, or why not. Whatever it names must be there. */
        int perform(int deed, int w, int what, int n) {
            switch (deed) {
                case GOES: return setOut(w, what);
                case LEARNS: return pickUp(w, what);
                case TELLS: return share(w, what);
                case RESTS: return sleep(w);
                case CREAM: return smooth(what);
                case SLIP: return close(what, n);
                case MOOD: return lift(what);
                default: return NONE;
            }
        }

        private int setOut(int w, int f) {
            if (isGoing(w)) {
                return 1;
            }
            int to = valley.across(f, state.place.get(w));
            if (to == NONE) {
                return 2;
            }
            if (state.slipped.get(f) > 0) {
                return 3;
            }
            int ahead = hoursOn(f, valley.pace.get(w));
            if (state.tired.get(w) + ahead > valley.breath) {
                return 4;
            }
            state.place.put(w, to);
            state.along.put(w, f);
            state.left.put(w, ahead);
            return 0;
        }

        private int pickUp(int w, int t) {
            if (isGoing(w)) {
                return 1;
            }
            if (valley.thingSpot.get(t) != state.place.get(w)) {
                return 2;
            }
            int known = state.known.get(w);
            if ((known >> t & 1) == 1) {
                return 3;
            }
            state.known.put(w, known | 1 << t);
            return 0;
        }

        private int share(int w, int x) {
            if (w == x || isGoing(w) || isGoing(x) || state.place.get(w) != state.place.get(x)) {
                return 1;
            }
            int known = state.known.get(w);
            int knownToOther = state.known.get(x);
            if ((known & ~knownToOther) == 0) {
                return 2;
            }
            state.known.put(x, known | knownToOther);
            return 0;
        }

        private int sleep(int w) {
            if (isGoing(w)) {
                return 1;
            }
            if (!isHoused(w)) {
                return 2;
            }
            if (state.tired.get(w) == 0) {
                return 3;
            }
            state.tired.put(w, 0);
            return 0;
        }

        private int smooth(int f) {
            if (state.depth.get(f) == 1) {
                return 1;
            }
            state.depth.put(f, 1);
            return 0;
        }

        private int close(int f, int n) {
            if (state.slipped.get(f) > 0) {
                return 1;
            }
            if (goersAlong(f) != 0) {
                return 2;
            }
            state.slipped.put(f, n);
            return 0;
        }

        private int lift(int kind) {
            if (state.lifted == kind) {
                return 1;
            }
            state.lifted = kind;
            return 0;
        }

        /** How many of n HOURS went by. */
        int passHours(int n) {
            int went = 0;
            while (went < n && state.hour < LAST_HOUR) {
                passHour();
                went++;
            }
            return went;
        }

        private void passHour() {
            for (int w = 0; w < valley.walkers; w++) {
                if (isGoing(w)) {
                    state.tired.add(w, 1);
                    state.left.add(w, -1);
                    if (state.left.get(w) == 0) {
                        state.along.put(w, NONE);
                        state.gone++;
                    }
                }
            }
            for (int f = 0; f < valley.folds; f++) {
                if (state.slipped.get(f) > 0) {
                    state.slipped.add(f, -1);
                }
            }
            state.hour++;
        }

        /** How many of n HOURS went by, DRAWN by a seed. */
        int drawHours(int n, int from) {
            seed = from;
            int went = 0;
            while (went < n && state.hour < LAST_HOUR) {
                for (int w = 0; w < valley.walkers; w++) {
                    if (!isGoing(w)) {
                        drawDeed(w);
                    }
                }
                int kind = draw(20);
                if (kind < KINDS) {
                    lift(kind);
                }
                passHour();
                went++;
            }
            return went;
        }

        private void drawDeed(int w) {
            switch (draw(4)) {
                case 0:
                case 1:
                    if (valley.folds > 0) {
                        setOut(w, draw(valley.folds));
                    }
                    break;
                case 2:
                    if (valley.things > 0) {
                        pickUp(w, draw(valley.things));
                    }
                    break;
                default:
                    sleep(w);
                    break;
            }
        }

        private int draw(int n) {
            seed = seed * 1103515245 + 12345;
            return n < 1 ? 0 : (seed >>> 8) % n;
        }
    }

    /** The STATES ahead of the latest deeds, in a ring. */
    private static final class History {
        private final State[] kept = new State[MOST_UNDONE];
        private int next;
        int size;

        History() {
            for (int i = 0; i < kept.length; i++) {
                kept[i] = new State();
            }
        }

        void forget() {
            size = 0;
        }

        void keep(State state) {
            State place = placeAt(next);
            if (place == null) {
                return;
            }
            place.become(state);
            next = (next + 1) % MOST_UNDONE;
            if (size < MOST_UNDONE) {
                size++;
            }
        }

        /** The state becomes the latest one kept; false: none is. */
        boolean takeBack(State state) {
            int latest = (next + MOST_UNDONE - 1) % MOST_UNDONE;
            State place = placeAt(latest);
            if (size == 0 || place == null) {
                return false;
            }
            state.become(place);
            next = latest;
            size--;
            return true;
        }

        private State placeAt(int i) {
            return i >= 0 && i < kept.length ? kept[i] : null;
        }
    }

    /** The tape, and the TOKEN of it that is being read. */
    private static final class Tape {
        private final Row bytes = new Row(MOST_TAPE);
        private final long[] words = new long[MANY_WORDS];
        int length;
        private int most;
        private int place;
        int start;
        int kind;
        int number;
        /** Which of WORDS the TOKEN is; NONE: none of them. */
        int word;
        /** The letters of a WORD, five bits each: seven fit into a long, and no text must be made. */
        long name;
        int faultKind;
        int faultPlace;

        Tape() {
            int which = 0;
            for (int i = 0; i < WORDS.length() && which < words.length; i++) {
                int c = WORDS.charAt(i);
                if (c == ' ') {
                    which++;
                } else {
                    words[which] = words[which] * 32 + (c - 'a' + 1);
                }
            }
        }

        int at(int i) {
            return bytes.get(i);
        }

        void addNumber(int x) {
            for (int shift = 24; shift >= 0; shift -= 8) {
                bytes.put(length, x >>> shift & 255);
                length++;
            }
        }

        /** Begins to read a text of at most so many bytes: its first TOKEN. */
        void open(int mostBytes) {
            most = mostBytes;
            place = 0;
            faultKind = 0;
            faultPlace = 0;
            advance();
        }

        void advance() {
            while (place < length && isBlank(bytes.get(place))) {
                place++;
            }
            start = place;
            word = NONE;
            if (place >= most && length > most) {
                start = most;
                kind = NO_TOKEN;
            } else if (place >= length) {
                kind = END;
            } else if (isLetter(bytes.get(place)) || isDigit(bytes.get(place))) {
                readRun();
            } else {
                kind = isSignByte(bytes.get(place)) ? bytes.get(place) : NO_TOKEN;
                place++;
            }
        }

        /** Letters and digits as long as they go on; where they are too many, number and name are not used. */
        private void readRun() {
            int letters = 0;
            number = 0;
            name = 0;
            while (place < length && (isLetter(bytes.get(place)) || isDigit(bytes.get(place)))) {
                int c = bytes.get(place);
                if (isLetter(c)) {
                    letters++;
                    name = name * 32 + (c - 'a' + 1);
                } else {
                    number = number * 10 + (c - '0');
                }
                place++;
            }
            int size = place - start;
            if (letters == size && size <= 7) {
                kind = WORD;
                findWord();
            } else {
                kind = letters == 0 && size <= 3 ? NUMERAL : NO_TOKEN;
            }
        }

        private void findWord() {
            for (int i = 0; i < words.length; i++) {
                if (words[i] == name) {
                    word = i;
                }
            }
        }

        private static boolean isBlank(int c) {
            return c == 32 || c == 10;
        }

        private static boolean isLetter(int c) {
            return c >= 'a' && c <= 'z';
        }

        private static boolean isDigit(int c) {
            return c >= '0' && c <= '9';
        }

        private static boolean isSignByte(int c) {
            return c == ';' || c == '<' || c == '=' || c == '>' || c == '(' || c == ')';
        }

        boolean isName() {
            return kind == WORD && word == NONE;
        }

        /** Keeps a FAULT of the TOKEN; false, so that a reader can answer it. */
        boolean refuse(int fault) {
            return refuseAt(fault, start);
        }

        boolean refuseAt(int fault, int where) {
            faultKind = fault;
            faultPlace = where;
            return false;
        }

        /** Goes past a sign; false: it is not there. */
        boolean pass(char sign) {
            if (kind != sign) {
                return refuse(CANNOT_COME);
            }
            advance();
            return true;
        }

        /** Goes past a NUMBER and answers it; NONE: it is not there, or not as told. */
        int takeNumber(int least, int greatest) {
            if (kind != NUMERAL) {
                refuse(CANNOT_COME);
                return NONE;
            }
            int taken = number;
            if (taken < least || taken > greatest) {
                refuse(BAD_NUMBER);
                return NONE;
            }
            advance();
            return taken;
        }

        /** Goes past a KIND and answers its number; NONE: it is not there. */
        int takeKind() {
            int kindTold = word - LAUGH;
            if (kindTold < 0 || kindTold >= KINDS) {
                refuse(CANNOT_COME);
                return NONE;
            }
            advance();
            return kindTold;
        }

        /** Goes past a NAME of one sort and answers whose it is; NONE: there is none, or not of that sort. */
        int takeNamed(Valley valley, int firstName, int many) {
            if (!isName()) {
                refuse(CANNOT_COME);
                return NONE;
            }
            int whose = valley.placeOfName(name) - firstName;
            if (whose < 0 || whose >= many) {
                refuse(BAD_NAME);
                return NONE;
            }
            advance();
            return whose;
        }
    }

    /** Reads a VALLEY into a draft, so that a FAULT leaves the one that is. */
    private static final class Surveyor {
        final Valley draft = new Valley();
        private boolean breathTold;

        /** How many LINES; NONE: a FAULT. */
        int readValley(Tape tape) {
            draft.empty();
            breathTold = false;
            tape.open(MOST_VALLEY);
            for (int read = 0; read <= MOST_VALLEY; read++) {
                if (tape.kind == END) {
                    return read;
                }
                if (!readLine(tape) || !tape.pass(';')) {
                    return NONE;
                }
            }
            return NONE;
        }

        private boolean readLine(Tape tape) {
            switch (tape.word) {
                case SPOT: return readSpot(tape);
                case FOLD: return readFold(tape);
                case THING: return readThing(tape);
                case WALKER: return readWalker(tape);
                case BREATH: return readBreath(tape);
                default: return tape.refuse(CANNOT_COME);
            }
        }

        private boolean readSpot(Tape tape) {
            if (draft.spots >= MOST_SPOTS) {
                return tape.refuse(TOO_MANY);
            }
            tape.advance();
            if (!readNewName(tape, SPOT_NAMES + draft.spots)) {
                return false;
            }
            if (tape.word == INN) {
                draft.innSpots |= 1 << draft.spots;
                tape.advance();
            }
            draft.spots++;
            return true;
        }

        private boolean readFold(Tape tape) {
            if (draft.folds >= MOST_FOLDS) {
                return tape.refuse(TOO_MANY);
            }
            tape.advance();
            int one = tape.takeNamed(draft, SPOT_NAMES, MOST_SPOTS);
            if (one == NONE) {
                return false;
            }
            int secondAt = tape.start;
            int other = tape.takeNamed(draft, SPOT_NAMES, MOST_SPOTS);
            if (other == NONE) {
                return false;
            }
            if (one == other || draft.areJoined(one, other)) {
                return tape.refuseAt(BAD_NAME, secondAt);
            }
            int depth = tape.takeNumber(1, MOST_DEPTH);
            if (depth == NONE) {
                return false;
            }
            int kind = tape.takeKind();
            if (kind == NONE) {
                return false;
            }
            draft.oneEnd.put(draft.folds, one);
            draft.otherEnd.put(draft.folds, other);
            draft.depth.put(draft.folds, depth);
            draft.kind.put(draft.folds, kind);
            draft.folds++;
            return true;
        }

        private boolean readThing(Tape tape) {
            if (draft.things >= MOST_THINGS) {
                return tape.refuse(TOO_MANY);
            }
            tape.advance();
            if (!readNewName(tape, THING_NAMES + draft.things)) {
                return false;
            }
            int spot = tape.takeNamed(draft, SPOT_NAMES, MOST_SPOTS);
            if (spot == NONE) {
                return false;
            }
            draft.thingSpot.put(draft.things, spot);
            draft.things++;
            return true;
        }

        private boolean readWalker(Tape tape) {
            if (draft.walkers >= MOST_WALKERS) {
                return tape.refuse(TOO_MANY);
            }
            tape.advance();
            if (!readNewName(tape, WALKER_NAMES + draft.walkers)) {
                return false;
            }
            int spot = tape.takeNamed(draft, SPOT_NAMES, MOST_SPOTS);
            if (spot == NONE) {
                return false;
            }
            int pace = tape.takeNumber(1, MOST_PACE);
            if (pace == NONE) {
                return false;
            }
            draft.home.put(draft.walkers, spot);
            draft.pace.put(draft.walkers, pace);
            draft.walkers++;
            return true;
        }

        private boolean readBreath(Tape tape) {
            if (breathTold) {
                return tape.refuse(BAD_NAME);
            }
            breathTold = true;
            tape.advance();
            int breath = tape.takeNumber(LEAST_BREATH, MOST_BREATH);
            if (breath == NONE) {
                return false;
            }
            draft.breath = breath;
            return true;
        }

        private boolean readNewName(Tape tape, int place) {
            if (!tape.isName()) {
                return tape.refuse(CANNOT_COME);
            }
            if (draft.placeOfName(tape.name) != NONE) {
                return tape.refuse(BAD_NAME);
            }
            draft.setName(place, tape.name);
            tape.advance();
            return true;
        }
    }

    /** The LINES of a BOOK, and how far the latest one came. */
    private static final class Book {
        private final Row deeds = new Row(MOST_LINES);
        private final Row whos = new Row(MOST_LINES);
        private final Row whats = new Row(MOST_LINES);
        private final Row longs = new Row(MOST_LINES);
        private int read;
        boolean lived;
        int why;
        int ahead;
        int hourThen;
        int knownThen;

        /** false: a FAULT. */
        boolean readBook(Tape tape, Valley valley) {
            read = 0;
            tape.open(MOST_BOOK);
            for (int i = 0; i <= MOST_LINES; i++) {
                if (tape.kind == END) {
                    return true;
                }
                if (!readLine(tape, valley) || !tape.pass(';')) {
                    return false;
                }
            }
            return false;
        }

        private boolean readLine(Tape tape, Valley valley) {
            int lineAt = tape.start;
            boolean byWalker = tape.word < CREAM || tape.word > HOUR;
            int who = 0;
            if (byWalker) {
                who = tape.takeNamed(valley, WALKER_NAMES, MOST_WALKERS);
                if (who == NONE) {
                    return false;
                }
            }
            if (read >= MOST_LINES) {
                return tape.refuseAt(TOO_MANY, lineAt);
            }
            int deed = tape.word;
            if (byWalker && (deed < GOES || deed > RESTS)) {
                return tape.refuse(CANNOT_COME);
            }
            tape.advance();
            int what = takeWhat(tape, valley, deed);
            int hoursLong = what != NONE && deed == SLIP ? tape.takeNumber(1, MOST_SLIP) : 0;
            if (what == NONE || hoursLong == NONE) {
                return false;
            }
            deeds.put(read, deed);
            whos.put(read, who);
            whats.put(read, what);
            longs.put(read, hoursLong);
            read++;
            return true;
        }

        private static int takeWhat(Tape tape, Valley valley, int deed) {
            switch (deed) {
                case GOES:
                case CREAM:
                case SLIP: return tape.takeNumber(0, MOST_FOLD_NUMBER);
                case LEARNS: return tape.takeNamed(valley, THING_NAMES, MOST_THINGS);
                case TELLS: return tape.takeNamed(valley, WALKER_NAMES, MOST_WALKERS);
                case MOOD: return tape.takeKind();
                case HOUR: return tape.takeNumber(1, MOST_HOURS);
                default: return 0;
            }
        }

        /** Lives the LINES up to the first that is WRONG: which one; NONE: none. */
        int live(World world) {
            lived = true;
            why = 0;
            ahead = 0;
            for (int k = 0; k < read && why == 0; k++) {
                why = liveLine(world, k);
                if (why == 0) {
                    ahead++;
                }
            }
            hourThen = world.state.hour;
            knownThen = world.knownThings();
            return why == 0 ? NONE : ahead;
        }

        /** 0, or why the LINE is WRONG: its deed in tens, and why not. */
        private int liveLine(World world, int k) {
            int deed = deeds.get(k);
            int what = whats.get(k);
            int tens = (deed - GOES) * 10;
            if (deed == HOUR) {
                if (world.state.hour + what > LAST_HOUR) {
                    return tens + 1;
                }
                world.passHours(what);
                return 0;
            }
            boolean ofFold = deed == GOES || deed == CREAM || deed == SLIP;
            if (ofFold && !world.valley.hasFold(what)) {
                return tens + 9;
            }
            int whyNot = world.perform(deed, whos.get(k), what, longs.get(k));
            return whyNot == 0 ? 0 : tens + whyNot;
        }
    }

    /** A SENTENCE: its ONES and what joins them, each behind what it joins. */
    private static final class Sentence {
        private static final int MOST_STEPS = 2 * MOST_ONES;
        /** A bracket is no WORD. */
        private static final int BRACKET = NONE;

        /** How many ONES; 0: there is no SENTENCE. */
        int ones;
        private int steps;
        private final Row words = new Row(MOST_STEPS);
        private final Row signs = new Row(MOST_STEPS);
        private final Row values = new Row(MOST_STEPS);
        private final Row pile = new Row(MOST_STEPS);
        private int height;
        /** How many ONES that hold others are open. */
        private int within;

        void forget() {
            ones = 0;
            steps = 0;
        }

        void become(Sentence other) {
            ones = other.ones;
            steps = other.steps;
            words.become(other.words);
            signs.become(other.signs);
            values.become(other.values);
        }

        /** false: a FAULT. A not, a bracket, a join waits on the pile until what it holds is put down. */
        boolean readSentence(Tape tape, Valley valley) {
            forget();
            height = 0;
            within = 0;
            tape.open(MOST_SENTENCE);
            boolean oneIsDue = true;
            for (int i = 0; i <= MOST_SENTENCE; i++) {
                int word = tape.word;
                if (oneIsDue) {
                    oneIsDue = word == NOT || word == BRACKET;
                    if (!readOne(tape, valley, word)) {
                        return false;
                    }
                } else if (word == AND || word == OR) {
                    settle(word);
                    push(word);
                    tape.advance();
                    oneIsDue = true;
                } else if (tape.kind == ')' && within > 0) {
                    closeBracket();
                    tape.advance();
                } else if (tape.kind == END && within == 0) {
                    settle(OR);
                    return true;
                } else {
                    return tape.refuse(CANNOT_COME);
                }
            }
            return false;
        }

        /** Reads a plain ONE, or begins one that has others within. */
        private boolean readOne(Tape tape, Valley valley, int word) {
            if (tape.kind != '(' && (word < NOT || word > NUMBER)) {
                return tape.refuse(CANNOT_COME);
            }
            if (ones >= MOST_ONES || within >= MOST_WITHIN) {
                return tape.refuse(TOO_MANY);
            }
            ones++;
            tape.advance();
            if (word == NOT || word == BRACKET) {
                push(word);
                within++;
                return true;
            }
            if (!readPlain(tape, valley, word)) {
                return false;
            }
            settleNots();
            return true;
        }

        private boolean readPlain(Tape tape, Valley valley, int word) {
            int sign = 0;
            int value = 0;
            if (word == AT) {
                value = tape.takeNamed(valley, SPOT_NAMES, MOST_SPOTS);
            } else if (word == KNOWS) {
                value = tape.takeNamed(valley, THING_NAMES, MOST_THINGS);
            } else if (word >= LEFT) {
                sign = tape.kind;
                if (sign != '<' && sign != '=' && sign != '>') {
                    return tape.refuse(CANNOT_COME);
                }
                tape.advance();
                value = tape.takeNumber(0, 999);
            }
            return value != NONE && addStep(word, sign, value);
        }

        private void push(int word) {
            pile.put(height, word);
            height++;
        }

        private int top() {
            return height > 0 ? pile.get(height - 1) : BRACKET;
        }

        /** Puts down what waits on top, as far as it binds no less closely than a join. */
        private void settle(int join) {
            while (height > 0 && (top() == AND || top() == join)) {
                addStep(top(), 0, 0);
                height--;
            }
        }

        private void settleNots() {
            while (height > 0 && top() == NOT) {
                addStep(NOT, 0, 0);
                height--;
                within--;
            }
        }

        private void closeBracket() {
            settle(OR);
            height--;
            within--;
            settleNots();
        }

        private boolean addStep(int word, int sign, int value) {
            words.put(steps, word);
            signs.put(steps, sign);
            values.put(steps, value);
            steps++;
            return true;
        }

        /** WALKERS of whom it may be said, as bits: each step is reckoned for all of them at once. */
        int those(World world, int lost) {
            int high = 0;
            for (int k = 0; k < steps; k++) {
                int word = words.get(k);
                if (word == NOT) {
                    pile.put(high - 1, ~pile.get(high - 1));
                } else if (word == AND) {
                    high--;
                    pile.put(high - 1, pile.get(high - 1) & pile.get(high));
                } else if (word == OR) {
                    high--;
                    pile.put(high - 1, pile.get(high - 1) | pile.get(high));
                } else {
                    pile.put(high, word == LOST ? lost : fitting(world, k));
                    high++;
                }
            }
            return pile.get(0) & ((1 << world.valley.walkers) - 1);
        }

        private int fitting(World world, int k) {
            int bits = 0;
            for (int w = 0; w < world.valley.walkers; w++) {
                if (fits(world, k, w)) {
                    bits |= 1 << w;
                }
            }
            return bits;
        }

        private boolean fits(World world, int k, int w) {
            int value = values.get(k);
            switch (words.get(k)) {
                case GOING: return world.isGoing(w);
                case HOUSED: return world.isHoused(w);
                case AT: return world.isAt(w, value);
                case KNOWS: return (world.state.known.get(w) >> value & 1) == 1;
                case LEFT: return compares(world.state.left.get(w), signs.get(k), value);
                case TIRED: return compares(world.state.tired.get(w), signs.get(k), value);
                case PACE: return compares(world.valley.pace.get(w), signs.get(k), value);
                default: return compares(w, signs.get(k), value);
            }
        }

        private static boolean compares(int x, int sign, int y) {
            return sign == '<' ? x < y : sign == '>' ? x > y : x == y;
        }
    }

    /** What is reckoned over the FOLDS as they are now, and what was told of it last. */
    private static final class Roads {
        /** HOURS to a SPOT whither no FOLDS lead; greater than any that can be gone. */
        private static final int NOWHERE = 1 << 16;
        /** A cost is HOURS times this and FOLDS, so that of like HOURS the fewest FOLDS cost least. */
        private static final int COST_OF_HOUR = 16;

        private final Row cost = new Row(MOST_SPOTS);
        private final Row otherCost = new Row(MOST_SPOTS);
        private final Row hoursFar = new Row(MOST_SPOTS * MOST_SPOTS);
        private final Row leastFrom = new Row((1 << MOST_THINGS) * MOST_SPOTS);
        private final Row near = new Row(MOST_SPOTS);

        final Row wayFolds = new Row(MOST_SPOTS);
        int wayLength;
        final Row order = new Row(MOST_THINGS);
        int orderLength;
        int meetingSpot = NONE;
        int moreInns = NONE;
        int askingSpot = NONE;

        /** The costs from one SPOT to each, by a PACE. */
        private void spread(World world, int from, int pace, Row costs) {
            costs.fill(NOWHERE * COST_OF_HOUR);
            costs.put(from, 0);
            for (int round = 1; round < world.valley.spots; round++) {
                for (int f = 0; f < world.valley.folds; f++) {
                    if (world.state.slipped.get(f) == 0) {
                        int more = costOf(world, f, pace);
                        lower(costs, world.valley.oneEnd.get(f), world.valley.otherEnd.get(f), more);
                        lower(costs, world.valley.otherEnd.get(f), world.valley.oneEnd.get(f), more);
                    }
                }
            }
        }

        private static int costOf(World world, int f, int pace) {
            return world.hoursOn(f, pace) * COST_OF_HOUR + 1;
        }

        private static void lower(Row costs, int from, int to, int more) {
            int through = costs.get(from) + more;
            if (through < costs.get(to)) {
                costs.put(to, through);
            }
        }

        private static int hoursTo(Row costs, int s) {
            return costs.get(s) / COST_OF_HOUR;
        }

        private void spreadAll(World world, int pace) {
            for (int from = 0; from < world.valley.spots; from++) {
                spread(world, from, pace, cost);
                for (int s = 0; s < world.valley.spots; s++) {
                    hoursFar.put(from * MOST_SPOTS + s, hoursTo(cost, s));
                }
            }
        }

        private int farFrom(int from, int s) {
            return hoursFar.get(from * MOST_SPOTS + s);
        }

        /** SPOTS that a WALKER who is not GOING REACHES, as bits. */
        int reachedBy(World world, int w) {
            spread(world, world.state.place.get(w), world.valley.pace.get(w), cost);
            int breath = world.valley.breath - world.state.tired.get(w);
            int bits = 0;
            for (int s = 0; s < world.valley.spots; s++) {
                if (hoursTo(cost, s) <= breath) {
                    bits |= 1 << s;
                }
            }
            return bits;
        }

        int lostWalkers(World world) {
            int bits = 0;
            for (int w = 0; w < world.valley.walkers; w++) {
                if (!world.isGoing(w) && (reachedBy(world, w) & world.valley.innSpots) == 0) {
                    bits |= 1 << w;
                }
            }
            return bits;
        }

        int findWay(World world, int w, int s) {
            int here = world.state.place.get(w);
            int pace = world.valley.pace.get(w);
            spread(world, s, pace, cost);
            int far = hoursTo(cost, here);
            if (far >= NOWHERE) {
                return NONE;
            }
            wayLength = 0;
            while (wayLength < MOST_SPOTS && here != s) {
                int f = firstFoldNearer(world, here, pace);
                if (f == NONE) {
                    return NONE;
                }
                wayFolds.put(wayLength, f);
                wayLength++;
                here = world.valley.across(f, here);
            }
            return far;
        }

        private int firstFoldNearer(World world, int here, int pace) {
            for (int f = 0; f < world.valley.folds; f++) {
                int to = world.valley.across(f, here);
                if (to != NONE && world.state.slipped.get(f) == 0
                        && cost.get(to) + costOf(world, f, pace) == cost.get(here)) {
                    return f;
                }
            }
            return NONE;
        }

        int findOrder(World world, int w) {
            Valley valley = world.valley;
            int wanted = ((1 << valley.things) - 1) & ~world.state.known.get(w);
            int here = world.state.place.get(w);
            spreadAll(world, valley.pace.get(w));
            planOrders(valley, wanted);
            int least = leastFrom.get(wanted * MOST_SPOTS + here);
            if (least >= NOWHERE) {
                return NONE;
            }
            orderLength = 0;
            while (orderLength < MOST_THINGS && wanted != 0) {
                int t = firstOf(valley, wanted, here);
                order.put(orderLength, t);
                orderLength++;
                wanted &= ~(1 << t);
                here = valley.thingSpot.get(t);
            }
            return least;
        }

        /** The least HOURS from each SPOT through each part of the wanted THINGS, smaller parts first. */
        private void planOrders(Valley valley, int wanted) {
            for (int part = 1; part <= wanted; part++) {
                if ((part & ~wanted) == 0) {
                    for (int s = 0; s < valley.spots; s++) {
                        int t = firstOf(valley, part, s);
                        leastFrom.put(part * MOST_SPOTS + s, hoursByFirst(valley, part, s, t));
                    }
                }
            }
        }

        /** The first THING of those by which the rest is least FAR, with which one should begin. */
        private int firstOf(Valley valley, int part, int here) {
            int first = 0;
            int least = NOWHERE * (MOST_THINGS + 1);
            for (int t = 0; t < valley.things; t++) {
                if ((part >> t & 1) == 1) {
                    int inAll = hoursByFirst(valley, part, here, t);
                    if (inAll < least) {
                        least = inAll;
                        first = t;
                    }
                }
            }
            return first;
        }

        private int hoursByFirst(Valley valley, int part, int here, int t) {
            int to = valley.thingSpot.get(t);
            return farFrom(here, to) + leastFrom.get((part & ~(1 << t)) * MOST_SPOTS + to);
        }

        int findMeeting(World world, int w, int x) {
            spread(world, world.state.place.get(w), world.valley.pace.get(w), cost);
            spread(world, world.state.place.get(x), world.valley.pace.get(x), otherCost);
            int least = NOWHERE;
            for (int s = 0; s < world.valley.spots; s++) {
                int both = Math.max(hoursTo(cost, s), hoursTo(otherCost, s));
                if (both < least) {
                    least = both;
                    meetingSpot = s;
                }
            }
            return least < NOWHERE ? least : NONE;
        }

        int findInns(World world, int n) {
            Valley valley = world.valley;
            spreadAll(world, 1);
            for (int s = 0; s < valley.spots; s++) {
                near.put(s, spotsWithin(valley, s, n));
            }
            int fewest = MOST_SPOTS + 1;
            for (int more = 0; more < 1 << valley.spots; more++) {
                int many = Integer.bitCount(more);
                if (many < fewest && isEnough(valley, more | valley.innSpots)) {
                    fewest = many;
                    moreInns = more;
                }
            }
            return fewest;
        }

        private int spotsWithin(Valley valley, int from, int n) {
            int bits = 0;
            for (int s = 0; s < valley.spots; s++) {
                if (farFrom(from, s) <= n) {
                    bits |= 1 << s;
                }
            }
            return bits;
        }

        private boolean isEnough(Valley valley, int withInns) {
            for (int s = 0; s < valley.spots; s++) {
                if ((near.get(s) & withInns) == 0) {
                    return false;
                }
            }
            return true;
        }

        int findOrigins(World world, Tape tape) {
            int pairs = tape.length / 2;
            if (tape.length % 2 != 0 || pairs < 1 || pairs > MOST_PAIRS) {
                return NONE;
            }
            for (int k = 0; k < pairs; k++) {
                if (!world.valley.hasSpot(tape.at(2 * k))) {
                    return NONE;
                }
            }
            spreadAll(world, 1);
            int origins = 0;
            for (int s = 0; s < world.valley.spots; s++) {
                if (isOrigin(tape, pairs, s)) {
                    origins |= 1 << s;
                }
            }
            if (origins != 0) {
                askingSpot = bestToAsk(world.valley, origins);
            }
            return origins;
        }

        private boolean isOrigin(Tape tape, int pairs, int s) {
            for (int k = 0; k < pairs; k++) {
                if (farFrom(s, tape.at(2 * k)) != tape.at(2 * k + 1)) {
                    return false;
                }
            }
            return true;
        }

        private int bestToAsk(Valley valley, int origins) {
            int best = NONE;
            int fewest = MOST_SPOTS + 1;
            for (int s = 0; s < valley.spots; s++) {
                int most = mostLeftBy(valley, origins, s);
                if (most < fewest) {
                    fewest = most;
                    best = s;
                }
            }
            return best;
        }

        private int mostLeftBy(Valley valley, int origins, int asked) {
            int most = 0;
            for (int s = 0; s < valley.spots; s++) {
                if ((origins >> s & 1) == 1) {
                    most = Math.max(most, alikeFrom(valley, origins, asked, s));
                }
            }
            return most;
        }

        /** How many of the origins are as FAR from the SPOT asked at as this one; those NOWHERE are alike. */
        private int alikeFrom(Valley valley, int origins, int asked, int one) {
            int many = 0;
            for (int s = 0; s < valley.spots; s++) {
                if ((origins >> s & 1) == 1 && farFrom(asked, s) == farFrom(asked, one)) {
                    many++;
                }
            }
            return many;
        }
    }

    /** The latest TAG. */
    private static final class Tag {
        final Row bytes = new Row(MOST_TAG);
        int length;

        void write(World world, int w, boolean isLost) {
            length = 0;
            addName(world.valley.nameAt(WALKER_NAMES + w));
            addText(world.isGoing(w) ? " to " : " at ");
            addName(world.valley.nameAt(SPOT_NAMES + world.state.place.get(w)));
            if (world.isGoing(w)) {
                addText(" in ");
                addDigit(world.state.left.get(w));
            }
            if (isLost) {
                addText(" lost");
            }
        }

        private void addByte(int c) {
            bytes.put(length, c);
            length++;
        }

        private void addText(String text) {
            for (int i = 0; i < text.length(); i++) {
                addByte(text.charAt(i));
            }
        }

        private void addName(long name) {
            for (int shift = 30; shift >= 0; shift -= 5) {
                int letter = (int) (name >> shift & 31);
                if (letter > 0) {
                    addByte('a' + letter - 1);
                }
            }
        }

        /** One is enough: no FOLD is deeper than 9, no PACE below 1. */
        private void addDigit(int n) {
            addByte('0' + n);
        }
    }
}
