/** Promises 40 and 41: images. */
public final class ImageTest {
    private static final Check CHECK = new Check("ImageTest");

    public static void main(String[] args) {
        places();
        keepsAll();
        keepsTheValley();
        keepsTheSentence();
        leavesWhatWasTold();
        CHECK.finish();
    }

    private static void places() {
        FoldRoads x = new FoldRoads();
        CHECK.due("restore(0) of nothing", x.restore(0), false);
        CHECK.due("restore(1) of nothing", x.restore(1), false);
        CHECK.due("image(2)", x.image(2), false);
        CHECK.due("image(-1)", x.image(-1), false);
        CHECK.due("restore(2)", x.restore(2), false);
        CHECK.due("restore(-1)", x.restore(-1), false);
        CHECK.due("image(1)", x.image(1), true);
        CHECK.due("restore(0), still nothing", x.restore(0), false);
        CHECK.due("restore(1)", x.restore(1), true);
        CHECK.due("an empty valley", x.count(0), 0);
    }

    private static void keepsAll() {
        FoldRoads x = Texts.of(Texts.FACE);
        x.image(0);
        String first = Texts.all(x);
        x.walk(0, 0);
        x.slip(2, 9);
        x.mood(1);
        x.hours(2);
        x.learn(0, 1);
        x.cream(1);
        x.walk(1, 3);
        x.hours(1);
        String second = Texts.all(x);
        x.image(1);
        x.hours(30);
        CHECK.due("restore(0)", x.restore(0), true);
        CHECK.due("all as first", Texts.all(x), first);
        CHECK.due("nothing to undo", x.undo(), -1);
        x.cream(0);
        CHECK.due("restore(1)", x.restore(1), true);
        CHECK.due("all as second", Texts.all(x), second);
        CHECK.due("tag", Texts.tag(x, 1), "bob to brow in 2");
    }

    private static void keepsTheValley() {
        FoldRoads x = Texts.of(Texts.FACE);
        x.walk(0, 0);
        x.hours(1);
        String first = Texts.all(x);
        x.image(0);
        Texts.valley(x, "spot nose;walker cid nose 3;breath 3;");
        CHECK.due("another valley", x.count(0), 1);
        String third = Texts.all(x);
        x.restore(0);
        CHECK.due("the valley, too", Texts.all(x), first);
        CHECK.due("and its names", Texts.tag(x, 1), "bob at eye");
        x.image(1);
        x.hours(9);
        x.restore(1);
        CHECK.due("the latest in a place", Texts.all(x), first);
        Texts.valley(x, "spot nose;walker cid nose 3;breath 3;");
        CHECK.due("as when told anew", Texts.all(x), third);
        CHECK.due("names of the old valley are free", Texts.valley(x, "spot bob;thing ann bob;"), 2);
        x.restore(1);
        CHECK.due("names of the image are not", Texts.book(x, "hour 1;ann learns war;bob goes 3;", 0), -1);
    }

    private static void keepsTheSentence() {
        FoldRoads x = Texts.of(Texts.FACE);
        x.image(0);
        Texts.sentence(x, "number = 1 or going");
        x.image(1);
        Texts.sentence(x, "not going");
        CHECK.due("two", x.said(-1), 2);
        x.restore(1);
        CHECK.due("one", x.said(-1), 1);
        CHECK.due("bob", x.said(0), 1);
        x.restore(0);
        CHECK.due("none", x.said(-1), -1);
        x.valley();
        x.restore(1);
        CHECK.due("with its valley", x.said(0), 1);
    }

    private static void leavesWhatWasTold() {
        FoldRoads x = Texts.of(Texts.FACE);
        x.image(0);
        Texts.book(x, "hour 5;cream 7;", 0);
        Texts.valley(x, "spot 1;");
        x.tag(1);
        Texts.put(x, "abc");
        x.mood(1);
        x.image(1);
        CHECK.due("an image leaves what can be undone", x.undo(), 0);
        x.restore(0);
        CHECK.due("tape", x.count(5), 3);
        CHECK.due("fault", x.fault(), 1);
        CHECK.due("told", x.told(0), 49);
        CHECK.due("told hour", x.told(2), 5);
        CHECK.due("byteAt", x.byteAt(0), 'b');
    }
}
