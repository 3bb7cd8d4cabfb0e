/** Promises 19 to 31: what is reckoned over the folds as they are now. */
public final class RoadsTest {
    private static final Check CHECK = new Check("RoadsTest");
    /** Two ways of two folds from a to d, all 1 deep, and e alone. */
    private static final String SQUARE = "spot a;spot b;spot c;spot d;spot e;fold a b 1 laugh;fold a c 1 worry;"
            + "fold c d 1 worry;fold b d 1 laugh;walker p a 1;walker q d 1;walker r e 1;";

    public static void main(String[] args) {
        takes();
        way();
        wayOfLikeOnes();
        reaches();
        gather();
        gatherOfLikeOnes();
        gatherBeyond();
        meet();
        inns();
        came();
        ask();
        mean();
        latestStays();
        CHECK.finish();
    }

    private static void takes() {
        FoldRoads x = Texts.of("spot a;spot b;spot c;fold a b 9 laugh;fold b c 1 worry;walker p a 1;walker q a 2;"
                + "walker r a 3;walker s a 4;walker t c 5;");
        int[] nine = {9, 5, 3, 3, 2};
        int[] eight = {8, 4, 3, 2, 2};
        for (int w = 0; w < 5; w++) {
            CHECK.due("takes " + w, x.takes(w, 0), nine[w]);
            CHECK.due("takes 1 deep " + w, x.takes(w, 1), 1);
        }
        x.mood(0);
        x.slip(0, 5);
        x.walk(4, 1);
        for (int w = 0; w < 5; w++) {
            CHECK.due("takes by the mood " + w, x.takes(w, 0), eight[w]);
        }
        x.mood(1);
        CHECK.due("1 at least", x.takes(0, 1), 1);
        int[][] none = {{-1, 0}, {5, 0}, {0, -1}, {0, 2}};
        for (int[] n : none) {
            CHECK.due("takes(" + n[0] + ", " + n[1] + ")", x.takes(n[0], n[1]), -1);
        }
    }

    private static void wayIs(FoldRoads x, int w, int s, int want, int... folds) {
        CHECK.due("way(" + w + ", " + s + ")", x.way(w, s), want);
        for (int k = 0; k < folds.length; k++) {
            CHECK.due("way(" + w + ", " + s + ") at " + k, x.wayAt(k), folds[k]);
        }
        CHECK.due("way(" + w + ", " + s + ") is not longer", x.wayAt(folds.length), -1);
    }

    private static void way() {
        FoldRoads x = Texts.of(Texts.FACE);
        wayIs(x, 0, 0, 0);
        wayIs(x, 0, 3, 7, 2, 3);
        wayIs(x, 1, 1, 9, 3, 1);
        CHECK.due("whither no folds lead", x.way(0, 4), -1);
        CHECK.due("the latest stays", x.wayAt(0), 3);
        CHECK.due("wayAt(-1)", x.wayAt(-1), -1);
        CHECK.due("wayAt of the greatest int", x.wayAt(Integer.MAX_VALUE), -1);
        x.slip(2, 3);
        wayIs(x, 0, 2, 5, 0, 1);
        x.slip(1, 2);
        CHECK.due("cut off", x.way(0, 2), -1);
        wayIs(x, 0, 1, 2, 0);
        x.hours(2);
        wayIs(x, 0, 2, 5, 0, 1);
        x.hours(1);
        wayIs(x, 0, 2, 5, 2);
        x.mood(2);
        wayIs(x, 0, 2, 4, 2);
        x.cream(1);
        wayIs(x, 0, 2, 3, 0, 1);
        wayIs(x, 1, 0, 8, 3, 1, 0);
        x.walk(0, 0);
        CHECK.due("who is going", x.way(0, 2), -1);
        x.hours(2);
        wayIs(x, 0, 2, 1, 1);
        int[][] none = {{-1, 0}, {2, 0}, {0, -1}, {0, 5}};
        for (int[] n : none) {
            CHECK.due("way(" + n[0] + ", " + n[1] + ")", x.way(n[0], n[1]), -1);
        }
        FoldRoads tired = Texts.of("spot a;spot b;fold a b 9 laugh;breath 2;walker p a 1;");
        CHECK.due("breath is no matter", tired.way(0, 1), 9);
    }

    private static void wayOfLikeOnes() {
        FoldRoads x = Texts.of(SQUARE);
        wayIs(x, 0, 3, 2, 0, 3);
        wayIs(x, 1, 0, 2, 2, 1);
        CHECK.due("from e", x.way(2, 0), -1);
        x.slip(0, 9);
        wayIs(x, 0, 3, 2, 1, 2);
        wayIs(x, 1, 0, 2, 2, 1);
        x.undo();
        x.slip(2, 9);
        wayIs(x, 0, 3, 2, 0, 3);
        FoldRoads fewest = Texts.of("spot a;spot b;spot c;fold a b 2 laugh;fold b c 2 laugh;fold a c 4 laugh;"
                + "walker p a 1;walker q a 2;walker r a 3;");
        wayIs(fewest, 0, 2, 4, 2);
        wayIs(fewest, 1, 2, 2, 2);
        wayIs(fewest, 2, 2, 2, 2);
        fewest.mood(0);
        wayIs(fewest, 0, 2, 2, 0, 1);
        // the least fold first, though the other way's second fold is less
        FoldRoads first = Texts.of("spot a;spot b;spot c;spot d;fold b d 1 laugh;fold a c 1 laugh;fold c d 1 laugh;"
                + "fold a b 1 laugh;walker p a 1;");
        wayIs(first, 0, 3, 2, 1, 2);
        FoldRoads line = Texts.of("spot a;spot b;spot c;spot d;spot e;spot f;spot g;spot h;fold a b 9 laugh;"
                + "fold b c 9 laugh;fold c d 9 laugh;fold d e 9 laugh;fold e f 9 laugh;fold f g 9 laugh;"
                + "fold g h 9 laugh;walker p a 1;walker q h 5;");
        wayIs(line, 0, 7, 63, 0, 1, 2, 3, 4, 5, 6);
        wayIs(line, 1, 0, 14, 6, 5, 4, 3, 2, 1, 0);
    }

    private static void reaches() {
        FoldRoads x = Texts.of("spot a;spot b;spot c;spot d;fold a b 3 laugh;fold b c 3 worry;fold c d 1 frown;"
                + "breath 6;walker p a 1;walker q a 2;walker r d 5;");
        CHECK.due("p", x.reaches(0), 7);
        CHECK.due("q", x.reaches(1), 15);
        CHECK.due("r", x.reaches(2), 15);
        x.mood(1);
        CHECK.due("p by the mood", x.reaches(0), 15);
        x.slip(1, 9);
        CHECK.due("p, slipped", x.reaches(0), 3);
        x.walk(0, 0);
        CHECK.due("going", x.reaches(0), -1);
        x.hours(3);
        CHECK.due("from b, tired 3", x.reaches(0), 3);
        x.hours(6);
        CHECK.due("from b, tired 3, slipped no more", x.reaches(0), 15);
        x.mood(2);
        CHECK.due("from b, tired 3, another mood", x.reaches(0), 7);
        x.walk(0, 1);
        x.hours(3);
        CHECK.due("no breath left: his own one", x.reaches(0), 4);
        CHECK.due("reaches(-1)", x.reaches(-1), -1);
        CHECK.due("reaches(3)", x.reaches(3), -1);
    }

    private static void gatherIs(FoldRoads x, int w, int want, int... things) {
        CHECK.due("gather(" + w + ")", x.gather(w), want);
        for (int k = 0; k < things.length; k++) {
            CHECK.due("gather(" + w + ") at " + k, x.gatherAt(k), things[k]);
        }
        CHECK.due("gather(" + w + ") is not longer", x.gatherAt(things.length), -1);
    }

    private static void gather() {
        FoldRoads x = Texts.of(Texts.FACE);
        gatherIs(x, 0, 5, 1, 0);
        gatherIs(x, 1, 9, 0, 1);
        CHECK.due("gatherAt(-1)", x.gatherAt(-1), -1);
        x.slip(2, 5);
        x.slip(1, 5);
        CHECK.due("can not come to all", x.gather(0), -1);
        CHECK.due("the latest stays", x.gatherAt(1), 1);
        x.walk(0, 0);
        CHECK.due("going", x.gather(0), -1);
        x.hours(2);
        x.learn(0, 1);
        CHECK.due("the other one is beyond", x.gather(0), -1);
        x.hours(3);
        gatherIs(x, 0, 3, 0);
        x.walk(0, 1);
        x.hours(3);
        gatherIs(x, 0, 0, 0);
        x.learn(0, 0);
        gatherIs(x, 0, 0);
        CHECK.due("gather(-1)", x.gather(-1), -1);
        CHECK.due("gather(2)", x.gather(2), -1);
        gatherIs(Texts.of("spot a;walker w a 1;"), 0, 0);
    }

    private static void gatherOfLikeOnes() {
        // from m: west 2, east 3, far 7; on the way to far, far alone may be first and east on the way back
        FoldRoads x = Texts.of("spot m;spot w;spot e;spot f;fold m w 2 laugh;fold m e 3 laugh;fold e f 4 laugh;"
                + "thing far f;thing west w;thing east e;walker p m 1;walker q e 1;walker r f 1;");
        gatherIs(x, 0, 11, 1, 2, 0);
        gatherIs(x, 1, 13, 0, 2, 1);
        gatherIs(x, 2, 9, 0, 2, 1);
        FoldRoads y = Texts.of("spot a;spot b;spot c;fold a b 1 laugh;fold a c 1 laugh;thing t c;thing u b;thing v c;"
                + "thing z a;walker p a 1;");
        gatherIs(y, 0, 3, 0, 2, 3, 1);
    }

    /** THINGS beyond, however many there are and wherever else some are. */
    private static void gatherBeyond() {
        String apart = "spot a;spot b;spot c;spot d;spot e;spot f;";
        String folds = "fold a b 1 laugh;fold c d 2 worry;";
        String[] spots = {"ac", "ca", "acd", "cad", "cda", "cdab", "abcd", "ecaedb", "abcdef", "fedcba", "eeeeee",
            "dcdcdc"};
        for (String where : spots) {
            StringBuilder text = new StringBuilder(where.startsWith("abcdef") ? apart : apart + folds);
            for (int t = 0; t < where.length(); t++) {
                text.append("thing ").append((char) ('t' + t)).append(' ').append(where.charAt(t)).append(';');
            }
            FoldRoads x = Texts.of(text + "walker p a 1;walker q c 5;walker r e 1;");
            for (int w = 0; w < 3; w++) {
                boolean all = w == 2 && where.equals("eeeeee") || w == 1 && where.equals("dcdcdc");
                CHECK.due("gather(" + w + ") of things at " + where, x.gather(w) >= 0, all);
            }
        }
    }

    private static void meetIs(FoldRoads x, int w, int y, int want, int spot) {
        CHECK.due("meet(" + w + ", " + y + ")", x.meet(w, y), want);
        CHECK.due("meet(" + w + ", " + y + ") at", x.meetAt(), spot);
    }

    private static void meet() {
        FoldRoads x = Texts.of("spot a;spot b;spot c;spot d;spot e;fold a b 2 laugh;fold b c 2 laugh;fold c d 3 laugh;"
                + "walker p d 1;walker q a 1;walker r a 5;walker s e 1;");
        meetIs(x, 0, 1, 4, 2);
        meetIs(x, 1, 0, 4, 2);
        meetIs(x, 0, 2, 3, 2);
        meetIs(x, 1, 2, 0, 0);
        meetIs(x, 3, 3, 0, 4);
        CHECK.due("nowhere", x.meet(0, 3), -1);
        CHECK.due("the latest stays", x.meetAt(), 4);
        x.mood(0);
        meetIs(x, 0, 1, 2, 2);
        x.slip(1, 1);
        CHECK.due("slipped", x.meet(0, 1), -1);
        x.walk(2, 0);
        x.undo();
        x.undo();
        x.walk(2, 0);
        CHECK.due("one is going", x.meet(0, 2), -1);
        CHECK.due("the other one is", x.meet(2, 0), -1);
        CHECK.due("meet(-1, 0)", x.meet(-1, 0), -1);
        CHECK.due("meet(0, 4)", x.meet(0, 4), -1);
        FoldRoads two = Texts.of("spot a;spot b;fold a b 3 laugh;walker p b 1;walker q a 1;");
        meetIs(two, 0, 1, 3, 0);
        FoldRoads square = Texts.of(SQUARE);
        meetIs(square, 0, 1, 1, 1);
    }

    private static void innsAre(FoldRoads x, int n, int want, int bits) {
        CHECK.due("inns(" + n + ")", x.inns(n), want);
        CHECK.due("inns(" + n + ") at", x.innsAt(), bits);
    }

    private static void inns() {
        FoldRoads x = Texts.of(Texts.FACE);
        innsAre(x, 0, 3, 22);
        innsAre(x, 2, 3, 22);
        innsAre(x, 3, 2, 18);
        innsAre(x, 4, 1, 16);
        innsAre(x, 99, 1, 16);
        CHECK.due("inns(-1)", x.inns(-1), -1);
        CHECK.due("inns(100)", x.inns(100), -1);
        CHECK.due("the latest stays", x.innsAt(), 16);
        x.mood(0);
        innsAre(x, 3, 1, 16);
        x.slip(0, 2);
        innsAre(x, 7, 2, 18);
        innsAre(x, 8, 1, 16);
        FoldRoads line = Texts.of("spot a;spot b;spot c;spot d;fold a b 2 laugh;fold b c 2 laugh;fold c d 2 laugh;");
        innsAre(line, 0, 4, 15);
        innsAre(line, 1, 4, 15);
        innsAre(line, 2, 2, 5);
        innsAre(line, 4, 1, 2);
        innsAre(line, 6, 1, 1);
        innsAre(new FoldRoads(), 0, 0, 0);
        innsAre(Texts.of("spot a inn;"), 0, 0, 0);
        innsAre(Texts.of("spot a;spot b;spot c;spot d;spot e;spot f;spot g;spot h;"), 99, 8, 255);
    }

    private static void came() {
        FoldRoads x = Texts.of(Texts.FACE);
        CHECK.due("9 from mouth", Texts.came(x, 0, 9), 4);
        CHECK.due("tape is empty", x.count(5), 0);
        CHECK.due("9 from cheek", Texts.came(x, 1, 9), 8);
        CHECK.due("0 from chin", Texts.came(x, 4, 0), 16);
        CHECK.due("1 from chin", Texts.came(x, 4, 1), 0);
        CHECK.due("both", Texts.came(x, 0, 4, 2, 6), 2);
        CHECK.due("not both", Texts.came(x, 0, 4, 2, 5), 0);
        CHECK.due("six", Texts.came(x, 0, 4, 2, 6, 0, 4, 2, 6, 3, 9, 1, 0), 2);
        CHECK.due("seven", Texts.came(x, 0, 4, 2, 6, 0, 4, 2, 6, 3, 9, 1, 0, 1, 0), -1);
        CHECK.due("tape is empty then, too", x.count(5), 0);
        CHECK.due("none", Texts.came(x), -1);
        CHECK.due("one byte", Texts.came(x, 0), -1);
        CHECK.due("three bytes", Texts.came(x, 0, 4, 1), -1);
        CHECK.due("no such spot", Texts.came(x, 5, 4), -1);
        CHECK.due("no such spot behind", Texts.came(x, 0, 4, 5, 4), -1);
        CHECK.due("spot 255", Texts.came(x, 255, 4), -1);
        CHECK.due("255 hours", Texts.came(x, 0, 255), 0);
        x.slip(1, 9);
        CHECK.due("round about", Texts.came(x, 1, 13), 4);
        x.slip(2, 9);
        CHECK.due("cut off", Texts.came(x, 1, 13), 0);
        x.mood(0);
        CHECK.due("by the mood", Texts.came(x, 0, 3), 2);
        CHECK.due("no spots", Texts.came(new FoldRoads(), 0, 0), -1);
    }

    private static void ask() {
        // a, b, c are 2 from h; a and b 1 from one another; d is alone
        FoldRoads v = Texts.of("spot a;spot b;spot c;spot d;fold a b 3 laugh;fold a c 1 laugh;fold b c 3 laugh;"
                + "fold a d 2 worry;fold c d 2 worry;");
        CHECK.due("3 from b", Texts.came(v, 1, 3), 5);
        CHECK.due("a tells a and c apart", v.ask(), 0);
        v.cream(3);
        CHECK.due("2 from d", Texts.came(v, 3, 2), 4);
        CHECK.due("3 and 3 again", Texts.came(v, 1, 3), 5);
        v.slip(0, 30);
        v.slip(1, 30);
        v.slip(3, 30);
        CHECK.due("0 from a", Texts.came(v, 0, 0), 1);
        CHECK.due("whence one can not come is told apart, too", v.ask(), 0);
        FoldRoads x = Texts.of("spot h;spot d;spot c;spot b;spot a;fold h a 2 laugh;fold h b 2 laugh;fold h c 2 worry;"
                + "fold a b 1 frown;");
        CHECK.due("2 from h", Texts.came(x, 0, 2), 28);
        CHECK.due("b tells all apart", x.ask(), 3);
        CHECK.due("4 from c", Texts.came(x, 2, 4), 24);
        CHECK.due("b tells a and b apart", x.ask(), 3);
        CHECK.due("4 from c, 0 from a", Texts.came(x, 2, 4, 4, 0), 16);
        CHECK.due("one alone: the first", x.ask(), 0);
        Texts.came(x, 0, 2);
        CHECK.due("none so far", Texts.came(x, 0, 9), 0);
        CHECK.due("not as told", Texts.came(x, 9, 9), -1);
        CHECK.due("the latest above 0", x.ask(), 3);
        x.slip(3, 9);
        CHECK.due("as it was then", x.ask(), 3);
        CHECK.due("3 leaves now", Texts.came(x, 0, 2), 28);
        CHECK.due("c first: 2 of 3 are alike from each", x.ask(), 2);
        x.slip(2, 9);
        CHECK.due("c is cut off", Texts.came(x, 0, 2), 24);
        CHECK.due("those that can not come are one kind", x.ask(), 3);
    }

    private static void meanIs(FoldRoads x, int s, int above, int below) {
        CHECK.due("mean(" + s + ", 0)", Texts.mean(x, s, 0), above);
        CHECK.due("mean(" + s + ", 1)", Texts.mean(x, s, 1), below);
    }

    private static void mean() {
        FoldRoads x = Texts.of(Texts.FACE);
        meanIs(x, 0, 13, 2);
        meanIs(x, 1, 5, 1);
        meanIs(x, 2, 6, 1);
        meanIs(x, 3, 3, 1);
        meanIs(x, 4, Texts.THROWS, Texts.THROWS);
        meanIs(x, 5, Texts.THROWS, Texts.THROWS);
        meanIs(x, -1, Texts.THROWS, Texts.THROWS);
        CHECK.due("mean(0, 2)", Texts.mean(x, 0, 2), Texts.THROWS);
        CHECK.due("mean(0, -1)", Texts.mean(x, 0, -1), Texts.THROWS);
        x.mood(2);
        meanIs(x, 0, 6, 1);
        meanIs(x, 2, 17, 3);
        x.slip(2, 5);
        meanIs(x, 0, 6, 1);
        x.cream(2);
        meanIs(x, 0, 5, 2);
        meanIs(x, 2, 10, 3);
        FoldRoads six = Texts.of("spot a;spot b;spot c;spot d;spot e;spot f;spot g;fold a b 1 laugh;fold a c 1 laugh;"
                + "fold a d 1 laugh;fold a e 2 laugh;fold a f 2 laugh;fold a g 2 laugh;");
        meanIs(six, 0, 3, 2);
        six.mood(0);
        meanIs(six, 0, 1, 1);
    }

    private static void latestStays() {
        FoldRoads x = Texts.of(Texts.FACE);
        x.way(0, 3);
        x.gather(0);
        x.meet(0, 1);
        x.inns(3);
        Texts.came(x, 1, 4);
        x.image(0);
        x.valley();
        for (int i = 0; i < 2; i++) {
            CHECK.due("way " + i, x.wayAt(1), 3);
            CHECK.due("gather " + i, x.gatherAt(0), 1);
            CHECK.due("meet " + i, x.meetAt(), 2);
            CHECK.due("inns " + i, x.innsAt(), 18);
            CHECK.due("ask " + i, x.ask(), 0);
            x.restore(0);
        }
    }
}
