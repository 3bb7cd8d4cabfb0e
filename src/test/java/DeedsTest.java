/** Promises 10 to 18: what walkers do, what befalls folds, hours, and undoing. */
public final class DeedsTest {
    private static final Check CHECK = new Check("DeedsTest");
    /** Two walkers at a (no inn), one at b (inn); breath 6; the fold a c is 5 deep. */
    private static final String THREE = "spot a;spot b inn;spot c;fold a b 3 laugh;fold b c 2 worry;fold c a 5 frown;"
            + "thing t a;thing u b;thing v a;walker p a 1;walker q a 2;walker r b 1;breath 6;";

    public static void main(String[] args) {
        walk();
        leastAndMostBreath();
        learn();
        tell();
        rest();
        cream();
        slip();
        mood();
        hours();
        lastHours();
        undo();
        undoOfEach();
        whatIsNotUndone();
        CHECK.finish();
    }

    private static void nothingChanges(FoldRoads x, String before, String call) {
        CHECK.due("all behind " + call, Texts.all(x), before);
    }

    private static void walk() {
        FoldRoads x = Texts.of(THREE);
        CHECK.due("from b by c a", x.walk(2, 2), 2);
        x.slip(2, 4);
        CHECK.due("slipped", x.walk(0, 2), 3);
        CHECK.due("not there ahead of slipped", x.walk(2, 2), 2);
        x.hours(4);
        CHECK.due("slipped no more", x.walk(0, 2), 0);
        CHECK.due("going", x.walk(0, 2), 1);
        CHECK.due("going ahead of not there", x.walk(0, 1), 1);
        x.hours(5);
        CHECK.due("tired 5", Texts.walker(x, 0, 4), 5);
        String before = Texts.all(x);
        CHECK.due("5 and 2 is more than 6", x.walk(0, 1), 4);
        x.slip(1, 1);
        CHECK.due("slipped ahead of tired", x.walk(0, 1), 3);
        x.undo();
        nothingChanges(x, before, "walks that are not done");
        CHECK.due("q takes 3 by c a", x.walk(1, 2), 0);
        CHECK.due("q's hours", Texts.walker(x, 1, 3), 3);
        x.hours(3);
        CHECK.due("back: 3 and 3 is 6", x.walk(1, 2), 0);
        x.cream(2);
        CHECK.due("his hours stay", Texts.walker(x, 1, 3), 3);
        x.hours(3);
        CHECK.due("no breath left", x.walk(1, 2), 4);
        int[][] none = {{-1, 0}, {3, 0}, {0, -1}, {0, 3}, {Integer.MIN_VALUE, Integer.MAX_VALUE}};
        for (int[] n : none) {
            CHECK.due("walk(" + n[0] + ", " + n[1] + ")", x.walk(n[0], n[1]), -1);
        }
        CHECK.due("along both ways", x.walk(2, 0), 0);
        CHECK.due("to a", Texts.walker(x, 2, 0), 0);
    }

    private static void leastAndMostBreath() {
        FoldRoads x = Texts.of("spot a;spot b;spot c;fold a b 9 laugh;fold b c 4 worry;fold a c 1 frown;"
                + "walker p a 1;walker q a 5;breath 40;");
        for (int i = 0; i < 4; i++) {
            CHECK.due("nine hours", x.walk(0, 0), 0);
            x.hours(9);
        }
        CHECK.due("36 and 9 is more than 40", x.walk(0, 0), 4);
        x.walk(1, 0);
        CHECK.due("36 and 1", x.walk(0, 2), 0);
        x.hours(2);
        CHECK.due("37 and 4 is more than 40", x.walk(0, 1), 4);
        x.mood(1);
        CHECK.due("37 and 3 is 40", x.walk(0, 1), 0);
        x.hours(3);
        CHECK.due("40 and 9", x.walk(0, 0), 4);
        CHECK.due("40 tired", Texts.walker(x, 0, 4), 40);
        x.cream(0);
        CHECK.due("40 and 1", x.walk(0, 0), 4);
        FoldRoads y = Texts.of("spot a;spot b;fold a b 3 laugh;walker p a 1;walker q a 2;breath 2;");
        CHECK.due("3 is more than 2", y.walk(0, 0), 4);
        CHECK.due("3 by 2, cut up, is 2", y.walk(1, 0), 0);
        y.mood(0);
        CHECK.due("2 is not", y.walk(0, 0), 0);
        FoldRoads z = Texts.of("spot a;spot b;fold a b 9 laugh;walker p a 1;walker q a 3;");
        CHECK.due("9 of the 12 without", z.walk(0, 0), 0);
        CHECK.due("3 of the 12", z.walk(1, 0), 0);
        z.hours(9);
        CHECK.due("9 and 9", z.walk(0, 0), 4);
        for (int i = 2; i <= 4; i++) {
            CHECK.due("3 times " + i, z.walk(1, 0), 0);
            z.hours(3);
        }
        CHECK.due("12 and 3", z.walk(1, 0), 4);
    }

    private static void learn() {
        FoldRoads x = Texts.of(THREE);
        CHECK.due("not there", x.learn(0, 1), 2);
        CHECK.due("there", x.learn(0, 2), 0);
        CHECK.due("knows", Texts.walker(x, 0, 5), 4);
        CHECK.due("knows it", x.learn(0, 2), 3);
        CHECK.due("another too", x.learn(0, 0), 0);
        CHECK.due("knows both", Texts.walker(x, 0, 5), 5);
        CHECK.due("q knows nothing", Texts.walker(x, 1, 5), 0);
        x.walk(0, 0);
        CHECK.due("going", x.learn(0, 0), 1);
        CHECK.due("going whither it is", x.learn(0, 1), 1);
        x.hours(3);
        CHECK.due("not there ahead of known", x.learn(0, 0), 2);
        CHECK.due("now there", x.learn(0, 1), 0);
        int[][] none = {{-1, 0}, {3, 0}, {0, -1}, {0, 3}};
        for (int[] n : none) {
            CHECK.due("learn(" + n[0] + ", " + n[1] + ")", x.learn(n[0], n[1]), -1);
        }
    }

    private static void tell() {
        FoldRoads x = Texts.of(THREE);
        CHECK.due("nothing to tell", x.tell(0, 1), 2);
        x.learn(0, 0);
        CHECK.due("himself", x.tell(0, 0), 1);
        CHECK.due("at another spot", x.tell(0, 2), 1);
        CHECK.due("nothing that the other does not know", x.tell(1, 0), 2);
        x.learn(1, 2);
        CHECK.due("p tells q", x.tell(0, 1), 0);
        CHECK.due("q knows both", Texts.walker(x, 1, 5), 5);
        CHECK.due("p knows his own alone", Texts.walker(x, 0, 5), 1);
        CHECK.due("once more", x.tell(0, 1), 2);
        CHECK.due("q tells p", x.tell(1, 0), 0);
        CHECK.due("p knows both", Texts.walker(x, 0, 5), 5);
        x.walk(0, 0);
        CHECK.due("who is going tells nobody", x.tell(0, 2), 1);
        CHECK.due("nor is he told", x.tell(1, 0), 1);
        CHECK.due("not even where he will be", x.tell(2, 0), 1);
        x.walk(1, 0);
        CHECK.due("both are going", x.tell(0, 1), 1);
        x.hours(3);
        CHECK.due("three at b", x.tell(1, 2), 0);
        int[][] none = {{-1, 0}, {3, 0}, {0, -1}, {0, 3}};
        for (int[] n : none) {
            CHECK.due("tell(" + n[0] + ", " + n[1] + ")", x.tell(n[0], n[1]), -1);
        }
    }

    private static void rest() {
        FoldRoads x = Texts.of(THREE);
        CHECK.due("no inn ahead of not tired", x.rest(0), 2);
        CHECK.due("not tired", x.rest(2), 3);
        x.walk(0, 0);
        CHECK.due("going, to an inn", x.rest(0), 1);
        x.walk(2, 0);
        CHECK.due("going, from an inn", x.rest(2), 1);
        x.hours(3);
        CHECK.due("tired, no inn", x.rest(2), 2);
        CHECK.due("tired, an inn", x.rest(0), 0);
        CHECK.due("not tired now", Texts.walker(x, 0, 4), 0);
        CHECK.due("not twice", x.rest(0), 3);
        CHECK.due("rest(-1)", x.rest(-1), -1);
        CHECK.due("rest(3)", x.rest(3), -1);
    }

    private static void cream() {
        FoldRoads x = Texts.of(THREE + "spot d;fold d a 1 laugh;");
        x.mood(1);
        CHECK.due("2 deep is 1 by the mood", x.fold(1, 2), 1);
        CHECK.due("and can be creamed yet", x.cream(1), 0);
        x.mood(0);
        CHECK.due("1 from now on", x.fold(1, 2), 1);
        CHECK.due("not twice", x.cream(1), 1);
        CHECK.due("5 deep", x.cream(2), 0);
        CHECK.due("1 now", x.fold(2, 2), 1);
        CHECK.due("1 as told", x.cream(3), 1);
        x.slip(0, 3);
        CHECK.due("one that has slipped", x.cream(0), 0);
        CHECK.due("cream(-1)", x.cream(-1), -1);
        CHECK.due("cream(4)", x.cream(4), -1);
        FoldRoads y = Texts.of(THREE);
        y.walk(0, 0);
        CHECK.due("one along which he goes", y.cream(0), 0);
        CHECK.due("his hours stay", Texts.walker(y, 0, 3), 3);
    }

    private static void slip() {
        FoldRoads x = Texts.of(THREE);
        CHECK.due("0 hours", x.slip(0, 0), -1);
        CHECK.due("31 hours", x.slip(0, 31), -1);
        CHECK.due("30 hours", x.slip(0, 30), 0);
        CHECK.due("slipped", x.slip(0, 1), 1);
        CHECK.due("for 30", x.fold(0, 4), 30);
        x.hours(29);
        CHECK.due("for 1 yet", x.fold(0, 4), 1);
        CHECK.due("still", x.slip(0, 1), 1);
        x.hours(1);
        CHECK.due("no more", x.fold(0, 4), 0);
        CHECK.due("again", x.slip(0, 1), 0);
        x.walk(1, 2);
        CHECK.due("q is going along", x.slip(2, 3), 2);
        x.hours(3);
        CHECK.due("q is there", x.slip(2, 3), 0);
        CHECK.due("slip(-1, 1)", x.slip(-1, 1), -1);
        CHECK.due("slip(3, 1)", x.slip(3, 1), -1);
    }

    private static void mood() {
        FoldRoads x = Texts.of(THREE);
        for (int k = 0; k < 3; k++) {
            CHECK.due("mood " + k, x.mood(k), 0);
            CHECK.due("it is that " + k, x.mood(k), 1);
            CHECK.due("now " + k, x.now(1), k);
            for (int f = 0; f < 3; f++) {
                int[] depth = {3, 2, 5};
                CHECK.due("fold " + f + " by " + k, x.fold(f, 2), f == k ? depth[f] - 1 : depth[f]);
            }
        }
        CHECK.due("mood(3)", x.mood(3), -1);
        CHECK.due("mood(-1)", x.mood(-1), -1);
        x.walk(1, 2);
        CHECK.due("4 by 2", Texts.walker(x, 1, 3), 2);
    }

    private static void hours() {
        FoldRoads x = Texts.of(THREE);
        CHECK.due("hours(0)", x.hours(0), -1);
        CHECK.due("hours(-1)", x.hours(-1), -1);
        CHECK.due("hours(61)", x.hours(61), -1);
        x.walk(0, 2);
        x.walk(2, 0);
        CHECK.due("hours(2)", x.hours(2), 2);
        CHECK.due("p has 3 yet", Texts.walker(x, 0, 3), 3);
        CHECK.due("r has 1 yet", Texts.walker(x, 2, 3), 1);
        CHECK.due("q rests not and goes not", Texts.walker(x, 1, 4), 0);
        CHECK.due("hours(1)", x.hours(1), 1);
        CHECK.due("r is there", x.spot(0, 3), 6);
        CHECK.due("one fold gone", x.now(7), 1);
        CHECK.due("hours(60)", x.hours(60), 60);
        CHECK.due("63", x.now(0), 63);
        CHECK.due("p is 5 tired", Texts.walker(x, 0, 4), 5);
        CHECK.due("two folds gone", x.now(7), 2);
    }

    private static void lastHours() {
        FoldRoads x = Texts.of(THREE);
        for (int i = 0; i < 6; i++) {
            x.hours(60);
        }
        CHECK.due("360", x.now(0), 360);
        CHECK.due("39", x.hours(39), 39);
        x.walk(0, 0);
        x.slip(1, 5);
        CHECK.due("1 of 2", x.hours(2), 1);
        CHECK.due("400", x.now(0), 400);
        CHECK.due("2 to go", Texts.walker(x, 0, 3), 2);
        CHECK.due("all are over", x.hours(1), 0);
        CHECK.due("drawn, too", x.drawn(5, 5), 0);
        CHECK.due("not as told ahead of all over", x.hours(0), -1);
        CHECK.due("deeds can be done yet", x.learn(1, 0), 0);
        CHECK.due("undo the learning, not hours of 0", x.undo(), 7);
        CHECK.due("undo the last hour", x.undo(), 6);
        CHECK.due("399", x.now(0), 399);
    }

    private static void undo() {
        FoldRoads x = Texts.of(THREE);
        CHECK.due("none", x.undo(), -1);
        x.walk(2, 2);
        x.rest(0);
        x.hours(0);
        CHECK.due("what was not done", x.undo(), -1);
        int[] moods = new int[12];
        for (int i = 0; i < 11; i++) {
            moods[i] = x.now(1);
            x.mood(i % 3);
        }
        CHECK.due("mood as it is", x.mood(1), 1);
        for (int i = 7; i >= 0; i--) {
            CHECK.due("undo, more: " + i, x.undo(), i);
            CHECK.due("mood " + i, x.now(1), moods[i + 3]);
        }
        String before = Texts.all(x);
        CHECK.due("8 at most", x.undo(), -1);
        nothingChanges(x, before, "an undo of none");
        x.mood(1);
        CHECK.due("one behind", x.undo(), 0);
        nothingChanges(x, before, "a mood undone");
        for (int i = 0; i < 8; i++) {
            x.mood(i % 3);
        }
        for (int i = 7; i >= 0; i--) {
            CHECK.due("8 just, more: " + i, x.undo(), i);
        }
        nothingChanges(x, before, "8 moods undone");
    }

    private static void undoOfEach() {
        for (int last = 0; last < 8; last++) {
            FoldRoads x = Texts.of(THREE);
            x.learn(0, 0);
            String before = "";
            for (int i = 0; i <= last; i++) {
                before = i == last ? Texts.all(x) : "";
                deedOfEachKind(x, i);
            }
            Texts.sentence(x, "number = 1 or number = 2");
            CHECK.due("it changes something " + last, Texts.all(x).equals(before), false);
            CHECK.due("undo " + last, x.undo(), Math.min(last + 1, 7));
            CHECK.due("all behind undo " + last, Texts.all(x), before);
            CHECK.due("the sentence stays", x.said(-1), 2);
        }
    }

    private static void deedOfEachKind(FoldRoads x, int kind) {
        switch (kind) {
            case 0: CHECK.due("tell", x.tell(0, 1), 0); break;
            case 1: CHECK.due("walk", x.walk(0, 0), 0); break;
            case 2: CHECK.due("hours", x.hours(3), 3); break;
            case 3: CHECK.due("rest", x.rest(0), 0); break;
            case 4: CHECK.due("cream", x.cream(2), 0); break;
            case 5: CHECK.due("slip", x.slip(2, 7), 0); break;
            case 6: CHECK.due("drawn", x.drawn(9, 9), 9); break;
            default: CHECK.due("book", Texts.book(x, "hour 2;cream 0;cream 0;", 1), 2); break;
        }
    }

    private static void whatIsNotUndone() {
        FoldRoads x = Texts.of(THREE);
        x.mood(0);
        Texts.book(x, "cream 9;hour 1;", 1);
        Texts.book(x, "hour 1;", 0);
        Texts.book(x, "", 1);
        Texts.book(x, "hour 1;;", 1);
        CHECK.due("books of which no line was lived", x.undo(), 0);
        x.mood(0);
        x.image(0);
        x.restore(0);
        CHECK.due("nothing behind restore", x.undo(), -1);
        x.mood(1);
        x.restore(1);
        CHECK.due("a restore of nothing leaves it", x.undo(), 0);
    }
}
