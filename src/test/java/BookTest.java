/** Promises 36 and 37: a BOOK is judged or lived, and what is told of it. */
public final class BookTest {
    private static final Check CHECK = new Check("BookTest");

    public static void main(String[] args) {
        judgedOrLived();
        whyWrong();
        missingFolds();
        hoursLeft();
        told();
        faults();
        mostLines();
        mostBytes();
        undoAndOtherLives();
        CHECK.finish();
    }

    private static void toldIs(FoldRoads x, String when, int why, int ahead, int hour, int known) {
        int[] want = {why, ahead, hour, known};
        for (int i = 0; i < 4; i++) {
            CHECK.due("told(" + i + ") " + when, x.told(i), want[i]);
        }
    }

    private static void judgedOrLived() {
        String text = "ann goes 0; hour 2;\nann learns war;ann goes 1;hour 3;ann learns recipe;bob goes 3;hour 3;"
                + "bob tells ann;";
        FoldRoads x = Texts.of(Texts.FACE);
        String before = Texts.all(x);
        CHECK.due("judged", Texts.book(x, text, 0), 8);
        toldIs(x, "of the judged one", 22, 8, 8, 3);
        CHECK.due("all stays", Texts.all(x), before);
        CHECK.due("nothing to undo", x.undo(), -1);
        CHECK.due("lived", Texts.book(x, text, 1), 8);
        toldIs(x, "of the lived one", 22, 8, 8, 3);
        CHECK.due("hour 8", x.now(0), 8);
        CHECK.due("known", x.now(4), 3);
        CHECK.due("ann is tired", Texts.walker(x, 0, 4), 5);
        CHECK.due("tape is empty", x.count(5), 0);
        CHECK.due("one to undo", x.undo(), 0);
        CHECK.due("all of it", Texts.all(x), before);

        CHECK.due("an empty one", x.book(1), -1);
        toldIs(x, "of the empty one", 0, 0, 0, 0);
        CHECK.due("no fault", x.fault(), 0);
        CHECK.due("nothing was lived", x.undo(), -1);
        CHECK.due("none is wrong", Texts.book(x, "mood frown;mood worry;cream 2;slip 3 30;hour 60;", 1), -1);
        toldIs(x, "of five", 0, 5, 60, 0);
        CHECK.due("mood", x.now(1), 1);
        CHECK.due("creamed", x.fold(2, 2), 1);
    }

    private static void wrong(String text, int line, int why) {
        for (int lives = 0; lives < 2; lives++) {
            FoldRoads x = Texts.of(Texts.FACE);
            CHECK.due("'" + text + "' lived " + lives, Texts.book(x, text, lives), line);
            CHECK.due("why '" + text + "'", x.told(0), why);
            CHECK.due("ahead '" + text + "'", x.told(1), line);
        }
    }

    private static void whyWrong() {
        wrong("ann goes 0;ann goes 0;", 1, 1);
        wrong("ann goes 1;", 0, 2);
        wrong("slip 0 1;ann goes 0;", 1, 3);
        wrong("bob goes 3;hour 3;bob goes 1;", 2, 4);
        wrong("ann goes 0;ann learns war;", 1, 11);
        wrong("ann learns war;", 0, 12);
        wrong("ann goes 0;hour 2;ann learns war;ann learns war;", 3, 13);
        wrong("ann tells bob;", 0, 21);
        wrong("ann tells ann;", 0, 21);
        wrong("bob goes 3;ann goes 2;hour 5;ann tells bob;", 3, 22);
        wrong("ann goes 0;ann rests;", 1, 31);
        wrong("ann goes 0;hour 2;ann rests;", 2, 32);
        wrong("ann rests;", 0, 33);
        wrong("cream 0;cream 0;", 1, 41);
        wrong("slip 0 2;hour 1;slip 0 1;", 2, 51);
        wrong("ann goes 0;slip 0 1;", 1, 52);
        wrong("mood laugh;mood laugh;", 1, 61);
        wrong("hour 60;hour 60;hour 60;hour 60;hour 60;hour 60;hour 41;", 6, 71);
        wrong("mood laugh;cream 0;ann goes 0;ann rests;hour 1;", 3, 31);
    }

    private static void missingFolds() {
        wrong("ann goes 4;", 0, 9);
        wrong("ann goes 11;", 0, 9);
        wrong("ann goes 0;ann goes 4;", 1, 9);
        wrong("cream 4;", 0, 49);
        wrong("slip 11 30;", 0, 59);
    }

    private static void hoursLeft() {
        FoldRoads x = Texts.of(Texts.FACE);
        for (int i = 0; i < 6; i++) {
            x.hours(60);
        }
        CHECK.due("more than are left", Texts.book(x, "hour 2;hour 39;", 1), 1);
        toldIs(x, "at 362", 71, 1, 362, 0);
        CHECK.due("362", x.now(0), 362);
        CHECK.due("just all", Texts.book(x, "hour 38;mood laugh;", 1), -1);
        toldIs(x, "at 400", 0, 2, 400, 0);
        CHECK.due("none left", Texts.book(x, "cream 1;hour 1;", 0), 1);
        toldIs(x, "at the end", 71, 1, 400, 0);
    }

    private static void told() {
        FoldRoads x = Texts.of(Texts.FACE);
        Texts.book(x, "hour 3;ann learns war;", 0);
        Texts.book(x, "hour 3", 0);
        toldIs(x, "a fault leaves it", 12, 1, 3, 0);
        x.book(2);
        toldIs(x, "book(2) leaves it", 12, 1, 3, 0);
        CHECK.due("told(4)", x.told(4), -1);
        CHECK.due("told(-1)", x.told(-1), -1);
        x.hours(9);
        x.valley();
        toldIs(x, "a valley leaves it", 12, 1, 3, 0);
    }

    private static void refused(String text, int kind, int place) {
        FoldRoads x = Texts.of(Texts.FACE);
        String before = Texts.all(x);
        CHECK.due("place of '" + text + "'", Texts.book(x, text, 1), -2 - place);
        CHECK.due("kind of '" + text + "'", x.fault(), kind);
        CHECK.due("all behind '" + text + "'", Texts.all(x), before);
        CHECK.due("told behind '" + text + "'", x.told(0), -1);
    }

    private static void faults() {
        refused("ann", 1, 3);
        refused("ann goes", 1, 8);
        refused("ann goes 0", 1, 10);
        refused("ann goes;", 1, 8);
        refused("ann goes x;", 1, 9);
        refused("ann sits;", 1, 4);
        refused("ann cream;", 1, 4);
        refused("ann ann;", 1, 4);
        refused("ann hour 1;", 1, 4);
        refused("12;", 1, 0);
        refused("spot;", 1, 0);
        refused("goes 1;", 1, 0);
        refused("number;", 1, 0);
        refused("cream 0;;", 1, 8);
        refused("ann learns;", 1, 10);
        refused("ann learns goes;", 1, 11);
        refused("ann learns 1;", 1, 11);
        refused("ann rests 1;", 1, 10);
        refused("mood joy;", 1, 5);
        refused("mood 0;", 1, 5);
        refused("mood ann;", 1, 5);
        refused("mood breath;", 1, 5);
        refused("mood goes;", 1, 5);
        refused("mood;", 1, 4);
        refused("cream;", 1, 5);
        refused("ann tells;", 1, 9);
        refused("slip 0;", 1, 6);
        refused("hour;", 1, 4);
        refused("hour 1?;", 1, 6);
        refused("ann goes 12;", 2, 9);
        refused("cream 12;", 2, 6);
        refused("slip 12 1;", 2, 5);
        refused("slip 0 0;", 2, 7);
        refused("slip 0 31;", 2, 7);
        refused("hour 0;", 2, 5);
        refused("hour 61;", 2, 5);
        refused("cid goes 0;", 3, 0);
        refused("mouth goes 0;", 3, 0);
        refused("war goes 0;", 3, 0);
        refused("ann learns bob;", 3, 11);
        refused("ann learns mouth;", 3, 11);
        refused("ann learns peace;", 3, 11);
        refused("ann tells war;", 3, 10);
        refused("ann tells cid;", 3, 10);
        refused("hour 1;cream 0;cream 99", 2, 21);
    }

    private static void mostLines() {
        String forty = Texts.times("hour 1;", 40);
        FoldRoads x = Texts.of(Texts.FACE);
        CHECK.due("40 lines", Texts.book(x, forty, 1), -1);
        CHECK.due("hour 40", x.now(0), 40);
        refused(forty + "hour 1;", 4, 280);
        refused(forty + "ann goes 0;", 4, 280);
        refused(forty + " ann", 4, 281);
        refused(forty + "cid", 3, 280);
        refused(forty + "spot", 1, 280);
        refused(forty + ";", 1, 280);
        refused(forty + "hour 99;", 4, 280);
    }

    private static void mostBytes() {
        FoldRoads x = Texts.of(Texts.FACE);
        CHECK.due("400 bytes", Texts.book(x, "hour 1;" + Texts.times("\n", 393), 0), -1);
        refused("hour 1;" + Texts.times(" ", 394), 1, 400);
        refused(Texts.times(" ", 396) + "hour 1;", 1, 400);
        refused(Texts.times(" ", 394) + "hour 61;", 2, 399);
        refused(Texts.times(" ", 395) + "hour 61;", 1, 400);
        refused(Texts.times(" ", 399) + "cid goes", 3, 399);
        refused(Texts.times(" ", 400) + "cid goes", 1, 400);
    }

    private static void undoAndOtherLives() {
        FoldRoads x = Texts.of(Texts.FACE);
        Texts.put(x, "hour 1;");
        CHECK.due("book(2)", x.book(2), -1000);
        CHECK.due("book(-1)", x.book(-1), -1000);
        CHECK.due("the tape stays", x.count(5), 7);
        CHECK.due("and is a book yet", x.book(1), -1);
        CHECK.due("wrong behind one", Texts.book(x, "hour 1;cream 9;hour 1;", 1), 1);
        CHECK.due("hour 2", x.now(0), 2);
        CHECK.due("wrong at once", Texts.book(x, "cream 9;hour 1;", 1), 0);
        CHECK.due("undo one", x.undo(), 1);
        CHECK.due("hour 1", x.now(0), 1);
        CHECK.due("undo the first", x.undo(), 0);
    }
}
