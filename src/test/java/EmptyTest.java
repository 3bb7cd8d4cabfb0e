/** The empty: a new object, a VALLEY without spots, folds, things or walkers, texts without LINES or bytes. */
public final class EmptyTest {
    private static final Check CHECK = new Check("EmptyTest");

    public static void main(String[] args) {
        aheadOfAny();
        noSpots();
        noFolds();
        noThings();
        noWalkers();
        emptyTexts();
        blankTexts();
        emptyAnswers();
        emptyImage();
        CHECK.finish();
    }

    private static void aheadOfAny() {
        FoldRoads x = new FoldRoads();
        for (int k = -1; k < 3; k++) {
            CHECK.due("wayAt(" + k + ") ahead of any", x.wayAt(k), -1);
            CHECK.due("gatherAt(" + k + ") ahead of any", x.gatherAt(k), -1);
            CHECK.due("byteAt(" + k + ") ahead of any", x.byteAt(k), -1);
            CHECK.due("told(" + k + ") ahead of any", x.told(k), -1);
            CHECK.due("said(" + k + ") without a sentence", x.said(k), -1);
            CHECK.due("restore(" + k + ") of nothing", x.restore(k), false);
        }
        CHECK.due("meetAt() ahead of any", x.meetAt(), -1);
        CHECK.due("innsAt() ahead of any", x.innsAt(), -1);
        CHECK.due("ask() ahead of any", x.ask(), -1);
        CHECK.due("fault() ahead of any", x.fault(), 0);
        CHECK.due("undo() of none", x.undo(), -1);
        CHECK.due("an empty tape", x.count(5), 0);
        CHECK.due("end(0) of an empty tape", x.end(0), true);
        CHECK.due("end(1) of an empty tape", x.end(1), false);
        CHECK.due("'breath' without", x.count(4), 12);
    }

    private static void noSpots() {
        FoldRoads x = new FoldRoads();
        CHECK.due("walker", Texts.walker(x, 0, 0), Texts.THROWS);
        CHECK.due("mean", Texts.mean(x, 0, 0), Texts.THROWS);
        CHECK.due("hours(60)", x.hours(60), 60);
        CHECK.due("drawn(60, 1)", x.drawn(60, 1), 60);
        CHECK.due("hour 120", x.now(0), 120);
        for (int i = 2; i < 7; i++) {
            CHECK.due("now(" + i + ")", x.now(i), 0);
        }
        CHECK.due("odds", x.odds(0, 1, 1), -1);
        CHECK.due("inns(0)", x.inns(0), 0);
        CHECK.due("inns(99)", x.inns(99), 0);
        CHECK.due("innsAt()", x.innsAt(), 0);
        CHECK.due("came", Texts.came(x, 0, 0), -1);
        CHECK.due("undo the draws", x.undo(), 1);
        CHECK.due("undo the hours", x.undo(), 0);
        CHECK.due("a book of hours", Texts.book(x, "hour 9;mood laugh;mood laugh;", 1), 2);
        CHECK.due("a book of folds", Texts.book(x, "cream 0;", 0), 0);
        CHECK.due("why", x.told(0), 49);
        CHECK.due("nobody has a name", Texts.book(x, "p rests;", 0), -2);
        CHECK.due("kind", x.fault(), 3);
    }

    private static void noFolds() {
        FoldRoads x = Texts.of("spot a inn;spot b;thing t a;thing u b;walker p a 1;walker q b 5;");
        CHECK.due("walk", x.walk(0, 0), -1);
        CHECK.due("takes", x.takes(0, 0), -1);
        CHECK.due("fold", x.fold(0, 0), -1);
        CHECK.due("way to his own spot", x.way(0, 0), 0);
        CHECK.due("no fold on it", x.wayAt(0), -1);
        CHECK.due("way", x.way(0, 1), -1);
        CHECK.due("reaches", x.reaches(1), 2);
        CHECK.due("who is lost", x.now(5), 2);
        CHECK.due("gather", x.gather(0), -1);
        x.learn(0, 0);
        CHECK.due("gather beyond", x.gather(0), -1);
        CHECK.due("meet", x.meet(0, 1), -1);
        CHECK.due("inns", x.inns(99), 1);
        CHECK.due("at b", x.innsAt(), 2);
        CHECK.due("came", Texts.came(x, 1, 0), 2);
        CHECK.due("came from elsewhere", Texts.came(x, 1, 1), 0);
        CHECK.due("mean", Texts.mean(x, 0, 1), Texts.THROWS);
        CHECK.due("no folds lead there", x.spot(0, 2), 0);
        CHECK.due("a book without folds", Texts.book(x, "q learns u;q tells q;", 1), 1);
        CHECK.due("learned, not told", x.told(0), 21);
        CHECK.due("rests, not by folds", Texts.book(x, "p rests;", 1), 0);
        CHECK.due("not tired", x.told(0), 33);
        CHECK.due("a walker draws", x.drawn(60, 3), 60);
        CHECK.due("and is where he was", Texts.walker(x, 1, 0), 1);
        CHECK.due("no folds gone", x.now(7), 0);
    }

    private static void noThings() {
        FoldRoads x = Texts.of("spot a inn;spot b;fold a b 2 laugh;walker p a 1;walker q a 1;");
        CHECK.due("gather", x.gather(0), 0);
        CHECK.due("in no order", x.gatherAt(0), -1);
        CHECK.due("learn", x.learn(0, 0), -1);
        CHECK.due("tell", x.tell(0, 1), 2);
        CHECK.due("odds", x.odds(0, 30, 1), 0);
        CHECK.due("nobody knows anything", x.now(4), 0);
        CHECK.due("nothing there", x.spot(0, 1), 0);
        CHECK.due("a sentence of a thing", Texts.sentence(x, "knows t"), -7);
        CHECK.due("kind", x.fault(), 3);
    }

    private static void noWalkers() {
        FoldRoads x = Texts.of("spot a inn;spot b;fold a b 2 laugh;thing t b;");
        CHECK.due("walk", x.walk(0, 0), -1);
        CHECK.due("reaches", x.reaches(0), -1);
        CHECK.due("gather", x.gather(0), -1);
        CHECK.due("meet", x.meet(0, 0), -1);
        CHECK.due("tag", x.tag(0), -1);
        CHECK.due("odds", x.odds(0, 1, 1), -1);
        CHECK.due("nobody is lost", x.now(5), 0);
        CHECK.due("nobody along", x.fold(0, 5), 0);
        CHECK.due("nobody there", x.spot(0, 3), 0);
        CHECK.due("a sentence", Texts.sentence(x, "not going"), 2);
        CHECK.due("of nobody", x.said(-1), 0);
        CHECK.due("the first of nobody", x.said(0), -1);
        CHECK.due("inns", x.inns(1), 1);
        CHECK.due("inns for 2", x.inns(2), 0);
        CHECK.due("none more", x.innsAt(), 0);
    }

    private static void emptyTexts() {
        FoldRoads x = Texts.of(Texts.FACE);
        CHECK.due("an empty book", x.book(1), -1);
        CHECK.due("without a fault", x.fault(), 0);
        CHECK.due("not wrong", x.told(0), 0);
        CHECK.due("no lines ahead", x.told(1), 0);
        CHECK.due("nothing was lived", x.undo(), -1);
        CHECK.due("an empty sentence", x.sentence(), -1);
        CHECK.due("with a fault", x.fault(), 1);
        CHECK.due("came by an empty tape", x.came(), -1);
        CHECK.due("an empty valley", x.valley(), 0);
        CHECK.due("without a fault", x.fault(), 0);
        CHECK.due("without spots", x.count(0), 0);
        CHECK.due("'breath' as without", x.count(4), 12);
    }

    private static void blankTexts() {
        FoldRoads x = Texts.of(Texts.FACE);
        CHECK.due("blanks as a book", Texts.book(x, " \n ", 0), -1);
        CHECK.due("blanks as a sentence", Texts.sentence(x, " \n "), -4);
        CHECK.due("with a fault", x.fault(), 1);
        CHECK.due("400 blanks as a book", Texts.book(x, Texts.times(" ", 400), 0), -1);
        CHECK.due("401 blanks as a book", Texts.book(x, Texts.times(" ", 401), 0), -402);
        CHECK.due("200 blanks as a sentence", Texts.sentence(x, Texts.times("\n", 200)), -201);
        CHECK.due("201 blanks as a sentence", Texts.sentence(x, Texts.times("\n", 201)), -201);
        CHECK.due("901 blanks as a valley", Texts.valley(x, Texts.times(" ", 901)), -901);
        CHECK.due("the valley stays", x.count(0), 5);
        CHECK.due("900 blanks as a valley", Texts.valley(x, Texts.times(" ", 900)), 0);
        CHECK.due("without spots", x.count(0), 0);
    }

    /** An answer that is empty takes the place of one that was not. */
    private static void emptyAnswers() {
        FoldRoads x = Texts.of(Texts.FACE);
        x.way(0, 3);
        CHECK.due("two folds", x.wayAt(1), 3);
        CHECK.due("to his own spot", x.way(0, 0), 0);
        CHECK.due("no fold", x.wayAt(0), -1);
        CHECK.due("nor a second", x.wayAt(1), -1);
        FoldRoads y = Texts.of("spot a;thing t a;walker p a 1;walker q a 1;");
        y.learn(1, 0);
        CHECK.due("where he is", y.gather(0), 0);
        CHECK.due("one thing", y.gatherAt(0), 0);
        CHECK.due("who knows all", y.gather(1), 0);
        CHECK.due("no thing", y.gatherAt(0), -1);
        CHECK.due("inns are due", y.inns(0), 1);
        y.valley();
        CHECK.due("none are", y.inns(0), 0);
        CHECK.due("at none", y.innsAt(), 0);
        Texts.book(y, "hour 2;cream 0;", 0);
        Texts.book(y, "", 0);
        CHECK.due("told of an empty book", y.told(0), 0);
        CHECK.due("no lines", y.told(1), 0);
        CHECK.due("hour 0", y.told(2), 0);
    }

    private static void emptyImage() {
        FoldRoads x = new FoldRoads();
        CHECK.due("an image of the empty", x.image(0), true);
        Texts.valley(x, Texts.FACE);
        Texts.sentence(x, "going");
        x.mood(0);
        CHECK.due("restored", x.restore(0), true);
        CHECK.due("all as of a new object", Texts.all(x), Texts.all(new FoldRoads()));
        CHECK.due("no sentence", x.said(-1), -1);
        CHECK.due("nothing to undo", x.undo(), -1);
        CHECK.due("the names are free", Texts.valley(x, "spot ann;thing mouth ann;walker war ann 1;"), 3);
    }
}
