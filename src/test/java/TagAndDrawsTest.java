import java.util.Random;

/** Promises 32 to 35: TAGS, and HOURS by draws. */
public final class TagAndDrawsTest {
    private static final Check CHECK = new Check("TagAndDrawsTest");
    private static final String ROUND = "spot a inn;spot b;spot c inn;spot d;fold a b 3 laugh;fold b c 5 worry;"
            + "fold c d 2 frown;fold d a 7 laugh;fold a c 9 worry;thing t b;thing u c;thing v a;thing w d;"
            + "walker p a 1;walker q b 2;walker r c 4;breath 15;";

    public static void main(String[] args) {
        tag();
        byteAt();
        drawnMoods();
        drawnWraps();
        drawnDeeds();
        drawnAsToldStepByStep();
        drawnEdges();
        odds();
        oddsAsCounted();
        CHECK.finish();
    }

    private static void tag() {
        FoldRoads x = Texts.of(Texts.FACE);
        CHECK.due("ann", Texts.tag(x, 0), "ann at mouth");
        CHECK.due("bob", Texts.tag(x, 1), "bob at eye");
        CHECK.due("length", x.tag(1), 10);
        x.walk(0, 0);
        CHECK.due("ann goes", Texts.tag(x, 0), "ann to cheek in 2");
        x.hours(1);
        CHECK.due("ann goes on", Texts.tag(x, 0), "ann to cheek in 1");
        x.hours(1);
        CHECK.due("ann is there", Texts.tag(x, 0), "ann at cheek");
        x.slip(0, 9);
        x.slip(1, 9);
        CHECK.due("ann is lost", Texts.tag(x, 0), "ann at cheek lost");
        CHECK.due("lost length", x.tag(0), 17);
        CHECK.due("tag(-1)", x.tag(-1), -1);
        CHECK.due("tag(2)", x.tag(2), -1);
        FoldRoads y = Texts.of("spot abcdefg;spot zyxwvut;fold abcdefg zyxwvut 9 worry;walker mnopqrs abcdefg 1;");
        CHECK.due("long names", Texts.tag(y, 0), "mnopqrs at abcdefg lost");
        y.walk(0, 0);
        CHECK.due("long names go", Texts.tag(y, 0), "mnopqrs to zyxwvut in 9");
        FoldRoads z = Texts.of("spot z inn;walker a z 1;walker za z 1;walker az z 1;");
        CHECK.due("a", Texts.tag(z, 0), "a at z");
        CHECK.due("za", Texts.tag(z, 1), "za at z");
        CHECK.due("az", Texts.tag(z, 2), "az at z");
    }

    private static void byteAt() {
        FoldRoads x = Texts.of(Texts.FACE);
        CHECK.due("ahead of any", x.byteAt(0), -1);
        x.tag(0);
        x.tag(5);
        CHECK.due("the latest TAG stays", x.byteAt(0), 'a');
        CHECK.due("byteAt(3)", x.byteAt(3), 32);
        CHECK.due("byteAt(11)", x.byteAt(11), 'h');
        CHECK.due("byteAt(12)", x.byteAt(12), -1);
        CHECK.due("byteAt(-1)", x.byteAt(-1), -1);
        CHECK.due("byteAt(31)", x.byteAt(31), -1);
        x.walk(0, 0);
        CHECK.due("as it was told", x.byteAt(4), 'a');
        x.tag(1);
        CHECK.due("a shorter one", x.byteAt(10), -1);
        x.valley();
        CHECK.due("behind a new valley", x.byteAt(9), 'e');
    }

    /** Each hour by itself, the seed's draws known: the 20s of seed 2 are 1, 7, ..; of seed 7 17, 15, 8, 13, 0. */
    private static void drawnMoods() {
        FoldRoads x = Texts.of("spot a;");
        CHECK.due("one hour", x.drawn(1, 2), 1);
        CHECK.due("a draw of 1", x.now(1), 1);
        CHECK.due("hour 1", x.now(0), 1);
        x = Texts.of("spot a;");
        CHECK.due("four hours", x.drawn(4, 7), 4);
        CHECK.due("draws of 17, 15, 8, 13", x.now(1), -1);
        x.undo();
        CHECK.due("five hours", x.drawn(5, 7), 5);
        CHECK.due("and of 0", x.now(1), 0);
        CHECK.due("undo", x.undo(), 0);
        CHECK.due("all five are undone", x.now(0), 0);
        CHECK.due("and the mood", x.now(1), -1);
        // a walker where there are no folds and no things draws of 4 alone: 2: 1 7, 1 18, 3 4, 1 1
        x = Texts.of("spot a;walker w a 1;");
        x.drawn(3, 2);
        CHECK.due("draws of 7, 18, 4", x.now(1), -1);
        x = Texts.of("spot a;walker w a 1;");
        x.drawn(4, 2);
        CHECK.due("and of 1", x.now(1), 1);
        CHECK.due("0", x.drawn(0, 2), -1);
        CHECK.due("61", x.drawn(61, 2), -1);
        CHECK.due("-1", x.drawn(-1, 2), -1);
        CHECK.due("60", x.drawn(60, 2), 60);
        CHECK.due("64", x.now(0), 64);
    }

    /** Where nobody is, an HOUR is one draw of 20; the products go far beyond an int. */
    private static void drawnWraps() {
        for (int seed : new int[] {Integer.MIN_VALUE, Integer.MIN_VALUE + 1, -1, 0, 1, Integer.MAX_VALUE, 1 << 30}) {
            FoldRoads x = Texts.of("spot a;");
            long[] at = {seed & 0xffffffffL};
            for (int n = 1; n <= 40; n++) {
                int mood = FoldRoads.NONE;
                at[0] = seed & 0xffffffffL;
                for (int i = 0; i < n; i++) {
                    int kind = next(at, 20);
                    mood = kind < 3 ? kind : mood;
                }
                CHECK.due("hours by seed " + seed, x.drawn(n, seed), n);
                CHECK.due("mood behind " + n + " hours by seed " + seed, x.now(1), mood);
                x.undo();
            }
        }
    }

    private static void drawnDeeds() {
        // seed 2: a draw of 4 is 1, then of 1 fold 0 (7 % 1), then of 20: 13
        FoldRoads x = Texts.of("spot a;spot b;fold a b 3 laugh;walker w a 1;");
        x.drawn(1, 2);
        CHECK.due("set out", Texts.walker(x, 0, 3), 2);
        CHECK.due("tired", Texts.walker(x, 0, 4), 1);
        x.drawn(2, 5);
        CHECK.due("is there", Texts.walker(x, 0, 2), -1);
        // seed 1: a draw of 4 is 2, then of 1 thing 0
        x = Texts.of("spot a;thing t a;walker w a 1;");
        x.drawn(1, 1);
        CHECK.due("learned", Texts.walker(x, 0, 5), 1);
        x = Texts.of("spot a inn;spot b inn;fold a b 1 frown;walker w a 1;");
        x.walk(0, 0);
        x.hours(1);
        CHECK.due("tired ahead", Texts.walker(x, 0, 4), 1);
        int seed = 0;
        while (draw(seed, 4) != 3) {
            seed++;
        }
        x.drawn(1, seed);
        CHECK.due("rested", Texts.walker(x, 0, 4), 0);
    }

    private static int draw(int seed, int n) {
        long x = (seed * 1103515245L + 12345L) & 0xffffffffL;
        return (int) (x >> 8) % n;
    }

    /** The same draws, each deed done by a call of its own. */
    private static void step(FoldRoads x, long[] seed, int folds, int things, int walkers) {
        for (int w = 0; w < walkers; w++) {
            if (x.walker(w, 2) == FoldRoads.NONE) {
                int deed = next(seed, 4);
                if (deed < 2 && folds > 0) {
                    x.walk(w, next(seed, folds));
                } else if (deed == 2 && things > 0) {
                    x.learn(w, next(seed, things));
                } else if (deed == 3) {
                    x.rest(w);
                }
            }
        }
        x.mood(next(seed, 20));
        x.hours(1);
    }

    private static int next(long[] seed, int n) {
        seed[0] = (seed[0] * 1103515245L + 12345L) & 0xffffffffL;
        return (int) ((seed[0] >> 8) % n);
    }

    private static void drawnAsToldStepByStep() {
        Random random = new Random(5);
        String[] valleys = {ROUND, Texts.FACE, "spot a;thing t a;walker w a 3;walker v a 1;",
            "spot a;spot b inn;fold a b 4 frown;walker w a 3;walker v a 1;", "spot a inn;walker w a 1;", ""};
        for (int i = 0; i < 60; i++) {
            int seed = random.nextInt();
            FoldRoads one = Texts.of(valleys[i % valleys.length]);
            FoldRoads other = Texts.of(valleys[i % valleys.length]);
            int n = 1 + random.nextInt(40);
            CHECK.due("drawn " + i, one.drawn(n, seed), n);
            long[] at = {seed & 0xffffffffL};
            int folds = other.count(1);
            int things = other.count(2);
            int walkers = other.count(3);
            for (int k = 0; k < n; k++) {
                step(other, at, folds, things, walkers);
            }
            CHECK.due("all by seed " + seed, Texts.all(one), Texts.all(other));
        }
    }

    private static void drawnEdges() {
        FoldRoads x = Texts.of(ROUND);
        for (int i = 0; i < 6; i++) {
            CHECK.due("sixty", x.drawn(60, i), 60);
        }
        CHECK.due("forty of sixty", x.drawn(60, 7), 40);
        CHECK.due("the last hour", x.now(0), 400);
        String before = Texts.all(x);
        CHECK.due("none more", x.drawn(1, 1), 0);
        CHECK.due("nothing drawn", Texts.all(x), before);
        CHECK.due("seven to undo", x.undo(), 6);
        CHECK.due("360", x.now(0), 360);
    }

    private static void odds() {
        FoldRoads x = Texts.of(ROUND);
        CHECK.due("odds(-1)", x.odds(-1, 1, 1), -1);
        CHECK.due("odds(3)", x.odds(3, 1, 1), -1);
        CHECK.due("0 seeds", x.odds(0, 0, 1), -1);
        CHECK.due("31 seeds", x.odds(0, 31, 1), -1);
        CHECK.due("1 seed", x.odds(0, 1, 1) >= 0, true);
        CHECK.due("30 seeds", x.odds(0, 30, 1) >= 0, true);
        x.walk(0, 0);
        x.mood(1);
        String before = Texts.all(x);
        x.odds(0, 30, 77);
        CHECK.due("nothing changes", Texts.all(x), before);
        CHECK.due("nor is anything to undo more", x.undo(), 1);
        FoldRoads none = Texts.of("spot a;spot b;fold a b 9 laugh;thing t b;breath 7;walker w a 1;");
        CHECK.due("he can not come there", none.odds(0, 30, 1), 0);
        FoldRoads here = Texts.of("spot a;thing t a;walker w a 1;");
        CHECK.due("by most seeds he learns it", here.odds(0, 30, Integer.MAX_VALUE - 5) > 20, true);
        here.learn(0, 0);
        CHECK.due("he knows all", here.odds(0, 30, 1), 0);
    }

    private static void oddsAsCounted() {
        for (int seed = -40; seed < 40; seed += 7) {
            oddsAre(seed, 9, 2);
        }
        // seeds beyond the greatest int go on from the least
        for (int n = 1; n < 9; n++) {
            oddsAre(Integer.MAX_VALUE - 3, n, 2);
        }
        oddsAre(5, 30, 2);
        oddsAre(5, 1, 2);
        // at 390 ten hours are left of twenty, at 399 one
        oddsAre(8, 9, 390);
        oddsAre(8, 9, 399);
        FoldRoads late = oddsStart(2);
        for (int i = 0; i < 7; i++) {
            late.hours(60);
        }
        CHECK.due("no hours left", late.odds(1, 30, 1), 0);
    }

    private static void oddsAre(int seed, int n, int hour) {
        for (int w = 0; w < 3; w++) {
            int many = 0;
            for (int i = 0; i < n; i++) {
                FoldRoads y = oddsStart(hour);
                int known = y.walker(w, 5);
                y.drawn(20, seed + i);
                many += y.walker(w, 5) != known ? 1 : 0;
            }
            CHECK.due("odds(" + w + ", " + n + ", " + seed + ") at " + hour, oddsStart(hour).odds(w, n, seed), many);
        }
    }

    private static FoldRoads oddsStart(int hour) {
        FoldRoads x = Texts.of(ROUND);
        while (x.now(0) + 60 < hour) {
            x.hours(60);
        }
        x.hours(hour - 2 - x.now(0));
        x.learn(0, 2);
        x.walk(1, 1);
        x.hours(2);
        return x;
    }
}
