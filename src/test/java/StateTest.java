/** Promises 6 to 9: what is told of a WALKER, a FOLD, a SPOT and of now. */
public final class StateTest {
    private static final Check CHECK = new Check("StateTest");

    public static void main(String[] args) {
        walker();
        fold();
        spot();
        now();
        lost();
        CHECK.finish();
    }

    private static void walkerIs(FoldRoads x, int w, int... want) {
        for (int i = 0; i < want.length; i++) {
            CHECK.due("walker(" + w + ", " + i + ")", Texts.walker(x, w, i), want[i]);
        }
    }

    private static void walker() {
        FoldRoads x = Texts.of(Texts.FACE);
        walkerIs(x, 0, 0, 2, -1, 0, 0, 0, 0);
        walkerIs(x, 1, 3, 1, -1, 0, 0, 0, 0);
        x.walk(0, 0);
        walkerIs(x, 0, 1, 2, 0, 2, 0, 0, 0);
        x.hours(1);
        walkerIs(x, 0, 1, 2, 0, 1, 1, 0, 0);
        x.hours(1);
        walkerIs(x, 0, 1, 2, -1, 0, 2, 0, 0);
        x.learn(0, 1);
        walkerIs(x, 0, 1, 2, -1, 0, 2, 2, 0);
        walkerIs(x, 1, 3, 1, -1, 0, 0, 0, 0);
        int[] who = {-1, 2, 5, Integer.MAX_VALUE, Integer.MIN_VALUE};
        for (int w : who) {
            CHECK.due("walker " + w, Texts.walker(x, w, 0), Texts.THROWS);
        }
        int[] whats = {-1, 7, Integer.MAX_VALUE, Integer.MIN_VALUE};
        for (int what : whats) {
            CHECK.due("walker(0, " + what + ")", Texts.walker(x, 0, what), Texts.THROWS);
        }
    }

    private static void fold() {
        FoldRoads x = Texts.of(Texts.FACE);
        int[][] want = {{0, 1, 4, 0, 0, 0}, {1, 2, 6, 1, 0, 0}, {0, 2, 9, 2, 0, 0}, {2, 3, 3, 0, 0, 0}};
        for (int f = 0; f < 4; f++) {
            for (int i = 0; i < 6; i++) {
                CHECK.due("fold(" + f + ", " + i + ")", x.fold(f, i), want[f][i]);
            }
        }
        x.mood(0);
        CHECK.due("less deep by the mood", x.fold(0, 2), 3);
        CHECK.due("of another kind", x.fold(1, 2), 6);
        x.slip(1, 5);
        x.hours(2);
        CHECK.due("slipped", x.fold(1, 4), 3);
        x.walk(1, 3);
        CHECK.due("bob along", x.fold(3, 5), 2);
        CHECK.due("nobody along", x.fold(0, 5), 0);
        CHECK.due("no fold 4", x.fold(4, 0), -1);
        CHECK.due("no fold -1", x.fold(-1, 0), -1);
        CHECK.due("no fold 12", x.fold(12, 0), -1);
        CHECK.due("no what 6", x.fold(0, 6), -1);
        CHECK.due("no what -1", x.fold(0, -1), -1);
        x.cream(0);
        CHECK.due("1 at least", x.fold(0, 2), 1);

        FoldRoads y = Texts.of("spot a;spot b;fold a b 2 frown;walker v a 1;walker w b 2;walker u a 1;");
        y.walk(0, 0);
        y.walk(1, 0);
        CHECK.due("two along", y.fold(0, 5), 3);
        y.hours(1);
        CHECK.due("one along", y.fold(0, 5), 1);
    }

    private static void spot() {
        FoldRoads x = Texts.of(Texts.FACE);
        int[][] want = {{1, 0, 5, 1}, {0, 2, 3, 0}, {0, 1, 14, 0}, {1, 0, 8, 2}, {0, 0, 0, 0}};
        for (int s = 0; s < 5; s++) {
            for (int i = 0; i < 4; i++) {
                CHECK.due("spot(" + s + ", " + i + ")", x.spot(s, i), want[s][i]);
            }
        }
        x.walk(0, 0);
        CHECK.due("nobody where he set out", x.spot(0, 3), 0);
        CHECK.due("nor where he is going", x.spot(1, 3), 0);
        x.hours(2);
        CHECK.due("but behind the fold", x.spot(1, 3), 1);
        x.learn(0, 1);
        CHECK.due("a thing stays where it is", x.spot(1, 1), 2);
        x.slip(3, 4);
        CHECK.due("a slipped fold leads there", x.spot(3, 2), 8);
        CHECK.due("no spot 5", x.spot(5, 0), -1);
        CHECK.due("no spot -1", x.spot(-1, 0), -1);
        CHECK.due("no what 4", x.spot(0, 4), -1);
        CHECK.due("no what -1", x.spot(0, -1), -1);
    }

    private static void nowIs(FoldRoads x, String when, int... want) {
        for (int i = 0; i < want.length; i++) {
            CHECK.due(when + " now(" + i + ")", x.now(i), want[i]);
        }
    }

    private static void now() {
        FoldRoads x = Texts.of(Texts.FACE);
        nowIs(x, "first", 0, -1, 0, 0, 0, 0, 0, 0);
        x.walk(0, 0);
        x.walk(1, 3);
        x.slip(1, 2);
        x.mood(2);
        nowIs(x, "set out", 0, 2, 3, 2, 0, 0, 0, 0);
        x.hours(2);
        nowIs(x, "behind two hours", 2, 2, 2, 0, 0, 0, 4, 1);
        x.learn(0, 1);
        x.hours(1);
        x.learn(1, 0);
        nowIs(x, "both there", 3, 2, 0, 0, 3, 0, 5, 2);
        x.hours(60);
        nowIs(x, "nobody goes on", 63, 2, 0, 0, 3, 0, 5, 2);
        x.slip(0, 1);
        x.slip(3, 30);
        CHECK.due("slipped for 1 and for 30", x.now(3), 9);
        CHECK.due("now(8)", x.now(8), -1);
        CHECK.due("now(-1)", x.now(-1), -1);
    }

    private static void lost() {
        // breath 2: ann has an inn here, bob one at 2 hours, cid one at 3 hours
        FoldRoads x = Texts.of("breath 2;spot a inn;spot b;spot c;fold a b 2 laugh;fold a c 3 worry;"
                + "walker ann a 1;walker bob b 1;walker cid c 1;walker dan c 2;");
        CHECK.due("cid is lost", x.now(5), 4);
        CHECK.due("ann", Texts.walker(x, 0, 6), 0);
        CHECK.due("bob", Texts.walker(x, 1, 6), 0);
        CHECK.due("cid", Texts.walker(x, 2, 6), 1);
        CHECK.due("dan goes by two", Texts.walker(x, 3, 6), 0);
        x.slip(0, 3);
        CHECK.due("slipped folds do not lead", x.now(5), 6);
        x.undo();
        x.mood(1);
        CHECK.due("a mood helps cid", x.now(5), 0);
        x.walk(1, 0);
        x.slip(1, 9);
        CHECK.due("who is going is not lost", x.now(5), 12);
        x.hours(2);
        CHECK.due("bob is at the inn", x.now(5), 12);
        x.walk(0, 0);
        x.hours(2);
        CHECK.due("ann is tired now", x.now(5), 13);
        CHECK.due("no inn at all", Texts.of("spot a;walker w a 1;").now(5), 1);
    }
}
