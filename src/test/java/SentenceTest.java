/** Promises 38 and 39: a SENTENCE and of whom it may be said. */
public final class SentenceTest {
    private static final Check CHECK = new Check("SentenceTest");
    /** v goes along the fold, w and x are at b with an inn, y is lost at c, z knows t at a. */
    private static FoldRoads five() {
        FoldRoads x = Texts.of("breath 9;spot a;spot b inn;spot c;fold a b 5 laugh;thing t a;thing u b;"
                + "walker v a 1;walker w b 2;walker x b 3;walker y c 4;walker z a 5;");
        x.walk(1, 0);
        x.hours(3);
        x.walk(1, 0);
        x.hours(3);
        x.learn(4, 0);
        x.walk(0, 0);
        x.hours(2);
        return x;
    }

    public static void main(String[] args) {
        ones();
        joins();
        said();
        stays();
        behindAnother();
        faults();
        tooMany();
        mostBytes();
        CHECK.finish();
    }

    private static int bits(FoldRoads x) {
        int bits = 0;
        for (int k = 0; k < x.said(-1); k++) {
            bits |= 1 << x.said(k);
        }
        return bits;
    }

    private static void saidIs(String text, int ones, int want) {
        FoldRoads x = five();
        CHECK.due("'" + text + "'", Texts.sentence(x, text), ones);
        CHECK.due("said '" + text + "'", bits(x), want);
        CHECK.due("tape behind '" + text + "'", x.count(5), 0);
    }

    private static void ones() {
        saidIs("going", 1, 1);
        saidIs("housed", 1, 6);
        saidIs("lost", 1, 8);
        saidIs("at a", 1, 16);
        saidIs("at b", 1, 6);
        saidIs("at c", 1, 8);
        saidIs("knows t", 1, 16);
        saidIs("knows u", 1, 0);
        saidIs("left = 3", 1, 1);
        saidIs("left > 2", 1, 1);
        saidIs("left > 3", 1, 0);
        saidIs("left < 3", 1, 30);
        saidIs("left = 0", 1, 30);
        saidIs("tired = 6", 1, 2);
        saidIs("tired = 2", 1, 1);
        saidIs("tired > 0", 1, 3);
        saidIs("tired < 2", 1, 28);
        saidIs("pace < 3", 1, 3);
        saidIs("pace = 3", 1, 4);
        saidIs("pace > 003", 1, 24);
        saidIs("number = 4", 1, 16);
        saidIs("number < 1", 1, 1);
        saidIs("number > 1", 1, 28);
        saidIs("number < 999", 1, 31);
        saidIs("number > 999", 1, 0);
    }

    private static void joins() {
        saidIs("not going", 2, 30);
        saidIs("not not going", 3, 1);
        saidIs("( going )", 2, 1);
        saidIs("(going)or\nhoused", 3, 7);
        saidIs("not housed and not going", 4, 24);
        saidIs("not (housed or going)", 4, 24);
        saidIs("not (housed and going)", 4, 31);
        saidIs("going or housed and pace = 3", 3, 5);
        saidIs("pace = 3 and housed or going", 3, 5);
        saidIs("(going or housed) and pace = 3", 4, 4);
        saidIs("housed and (going or pace = 3)", 4, 4);
        saidIs("not at a or number = 4 and knows u", 4, 15);
        saidIs("going or lost or at a or housed", 4, 31);
        saidIs("number > 0 and number < 4 and not number = 2", 4, 10);
        saidIs("number = 0 or number = 1 and number = 2 or number = 3", 4, 9);
        saidIs("((at a) or ((at b)))", 6, 22);
        saidIs("not ((not at a) and not (at b))", 8, 22);
        saidIs("(not at a) and at b", 4, 6);
    }

    private static void said() {
        FoldRoads x = five();
        CHECK.due("ahead of any", x.said(-1), -1);
        CHECK.due("ahead of any, 0", x.said(0), -1);
        Texts.sentence(x, "pace > 2");
        CHECK.due("how many", x.said(-1), 3);
        CHECK.due("the first", x.said(0), 2);
        CHECK.due("the second", x.said(1), 3);
        CHECK.due("the third", x.said(2), 4);
        CHECK.due("no fourth", x.said(3), -1);
        CHECK.due("said(-2)", x.said(-2), -1);
        CHECK.due("said of the greatest int", x.said(Integer.MAX_VALUE), -1);
        FoldRoads none = Texts.of("spot a;");
        CHECK.due("no walkers", Texts.sentence(none, "not going"), 2);
        CHECK.due("of none", none.said(-1), 0);
        CHECK.due("of none, 0", none.said(0), -1);
    }

    private static void stays() {
        FoldRoads x = five();
        Texts.sentence(x, "going");
        CHECK.due("v goes", bits(x), 1);
        CHECK.due("a fault", Texts.sentence(x, "housed and"), -11);
        CHECK.due("kind", x.fault(), 1);
        CHECK.due("it stays", bits(x), 1);
        x.hours(3);
        CHECK.due("said of what is now", bits(x), 0);
        x.undo();
        CHECK.due("and of what is undone", bits(x), 1);
        Texts.sentence(x, "lost");
        CHECK.due("another one", bits(x), 8);
        String[] spoiled = {"((not going", "not not", "going and ( housed or", "going or not", "(((going) or at a"};
        for (String text : spoiled) {
            CHECK.due("spoiled '" + text + "'", Texts.sentence(x, text) < 0, true);
            CHECK.due("read afresh", Texts.sentence(x, "going or not not not not not (at a)"), 8);
            CHECK.due("said afresh", bits(x), 15);
        }
        x.valley();
        CHECK.due("none behind a new valley", x.said(-1), -1);
    }

    /** A SENTENCE takes nothing of the one ahead of it, however long that was. */
    private static void behindAnother() {
        String[] texts = {"number = 1 or number = 3 and not going", "going", "not (at a or at b)", "lost", "((housed))",
            "not not not going and not lost", "tired > 0", "pace < 4 and pace > 1 or knows t or left = 3"};
        for (String ahead : texts) {
            for (String text : texts) {
                FoldRoads x = five();
                FoldRoads fresh = five();
                Texts.sentence(x, ahead);
                String call = "'" + text + "' behind '" + ahead + "'";
                CHECK.due(call, Texts.sentence(x, text), Texts.sentence(fresh, text));
                CHECK.due("said " + call, bits(x), bits(fresh));
            }
        }
    }

    private static void refused(String text, int kind, int place) {
        FoldRoads x = five();
        CHECK.due("place of '" + text + "'", Texts.sentence(x, text), -1 - place);
        CHECK.due("kind of '" + text + "'", x.fault(), kind);
        CHECK.due("no sentence behind '" + text + "'", x.said(-1), -1);
        CHECK.due("tape behind '" + text + "'", x.count(5), 0);
    }

    private static void faults() {
        refused("", 1, 0);
        refused("  ", 1, 2);
        refused("not", 1, 3);
        refused("(", 1, 1);
        refused("()", 1, 1);
        refused("(going", 1, 6);
        refused("(going or", 1, 9);
        refused("going)", 1, 5);
        refused("(going))", 1, 7);
        refused("going going", 1, 6);
        refused("going not housed", 1, 6);
        refused("going and or housed", 1, 10);
        refused("and going", 1, 0);
        refused("going;", 1, 5);
        refused("going.", 1, 5);
        refused("going 1", 1, 6);
        refused("(going;)", 1, 6);
        refused("a", 1, 0);
        refused("7", 1, 0);
        refused("rests", 1, 0);
        refused("at", 1, 2);
        refused("at 1", 1, 3);
        refused("at lost", 1, 3);
        refused("at t", 3, 3);
        refused("at v", 3, 3);
        refused("at q", 3, 3);
        refused("knows", 1, 5);
        refused("knows knows", 1, 6);
        refused("knows a", 3, 6);
        refused("knows v", 3, 6);
        refused("left", 1, 4);
        refused("left 3", 1, 5);
        refused("left ( 3", 1, 5);
        refused("left ;", 1, 5);
        refused("left < a", 1, 7);
        refused("left < =", 1, 7);
        refused("left <", 1, 6);
        refused("pace = 1000", 1, 7);
        refused("number = 1x", 1, 9);
        refused("nor", 1, 0);
    }

    private static void tooMany() {
        String twenty = "going" + Texts.times(" or lost", 19);
        saidIs(twenty, 20, 9);
        saidIs("going" + Texts.times(" and lost", 18) + " or at a", 20, 16);
        refused(twenty + " and at a", 4, twenty.length() + 5);
        refused(twenty + " and not", 4, twenty.length() + 5);
        refused(twenty + " and (", 4, twenty.length() + 5);
        refused(twenty + " and 7", 1, twenty.length() + 5);
        refused(twenty + " and )", 1, twenty.length() + 5);
        refused(twenty + " and", 1, twenty.length() + 4);
        CHECK.due("8 within", Texts.sentence(five(), Texts.times("not ", 7) + "going"), 8);
        refused(Texts.times("not ", 8) + "going", 4, 32);
        refused(Texts.times("not ", 8) + "spot", 1, 32);
        CHECK.due("8 by brackets", Texts.sentence(five(), "(((((((going)))))))"), 8);
        refused("((((((((going))))))))", 4, 8);
        refused("(((((((( at a))))))))", 4, 9);
        refused(Texts.times("(not ", 4) + "at a))))", 4, 20);
        CHECK.due("behind one another",
                Texts.sentence(five(), "(((not not not not at a))) and ((((not not not lost))))"), 16);
        refused("((((((going and (not lost)))))))", 4, 21);
        CHECK.due("closed ones count no more",
                Texts.sentence(five(), "((((((going) and (lost)))))) or not not not not not not not at b"), 17);
    }

    private static void mostBytes() {
        CHECK.due("200 bytes", Texts.sentence(five(), "going" + Texts.times(" ", 195)), 1);
        refused("going" + Texts.times(" ", 196), 1, 200);
        refused(Texts.times(" ", 196) + "going", 1, 200);
        refused(Texts.times(" ", 196) + "goings", 1, 196);
        refused(Texts.times(" ", 196) + "at  qq", 1, 200);
        refused(Texts.times(" ", 196) + "at qqq", 3, 199);
    }
}
