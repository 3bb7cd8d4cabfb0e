/**
 * The full: a VALLEY of all that there may be with the longest NAMES, of just 900 bytes; of each sort the last
 * one is asked for wherever it can be. BOOKS of 40 LINES and 400 bytes, SENTENCES of 20 ONES and 200 bytes.
 */
public final class FullTest {
    private static final Check CHECK = new Check("FullTest");
    private static final String ENDS = "abbccddeeffgghhacadbgehf";
    private static final int[] DEPTHS = {1, 2, 3, 4, 5, 6, 7, 9, 8, 9, 9, 9};
    private static final String[] KINDS = {"laugh", "worry", "frown"};
    private static final String THING_SPOTS = "hacegh";
    private static final String WALKER_SPOTS = "acegh";

    public static void main(String[] args) {
        valley();
        whatIsSo();
        deedsOfTheLast();
        waysAndOrders();
        meetInnsCame();
        asking();
        drawsAndTags();
        books();
        sentences();
        images();
        smallerBehind();
        tape();
        CHECK.finish();
    }

    private static String seven(char letter) {
        return Texts.times(String.valueOf(letter), 7);
    }

    /** 8 SPOTS (an inn at the last), 12 FOLDS, 6 THINGS, 5 WALKERS, 'breath' 40. */
    private static String lines() {
        StringBuilder all = new StringBuilder("breath 40;");
        for (char s = 'a'; s <= 'h'; s++) {
            all.append("spot ").append(seven(s)).append(s == 'h' ? " inn;" : ";");
        }
        for (int f = 0; f < 12; f++) {
            all.append("fold ").append(seven(ENDS.charAt(2 * f))).append(' ').append(seven(ENDS.charAt(2 * f + 1)));
            all.append(' ').append(DEPTHS[f]).append(' ').append(KINDS[f % 3]).append(';');
        }
        for (int t = 0; t < 6; t++) {
            all.append("thing ").append(seven((char) ('t' + t))).append(' ').append(seven(THING_SPOTS.charAt(t)));
            all.append(';');
        }
        for (int w = 0; w < 5; w++) {
            all.append("walker ").append(seven((char) ('l' + w))).append(' ').append(seven(WALKER_SPOTS.charAt(w)));
            all.append(' ').append(w + 1).append(';');
        }
        return all.toString();
    }

    /** The same of just so many bytes, the last of them the last sign. */
    private static String padded(int bytes) {
        String text = lines();
        return text.substring(0, text.length() - 1) + Texts.times(" ", bytes - text.length()) + ";";
    }

    private static FoldRoads full() {
        return Texts.of(padded(900));
    }

    private static void valley() {
        FoldRoads x = new FoldRoads();
        CHECK.due("32 lines in 900 bytes", Texts.valley(x, padded(900)), 32);
        int[] want = {8, 12, 6, 5, 40, 0};
        for (int i = 0; i < 6; i++) {
            CHECK.due("count(" + i + ")", x.count(i), want[i]);
        }
        CHECK.due("901 bytes", Texts.valley(x, padded(901)), -901);
        CHECK.due("901 bytes: kind", x.fault(), 1);
        CHECK.due("the full one stays", x.count(1), 12);
        String[] more = {"spot i;", "fold aaaaaaa eeeeeee 1 laugh;", "thing z aaaaaaa;", "walker z aaaaaaa 1;"};
        for (String line : more) {
            CHECK.due("one more: " + line, Texts.valley(x, lines() + line), -1 - lines().length());
            CHECK.due("one more: kind", x.fault(), 4);
        }
        CHECK.due("no more 'breath'", Texts.valley(x, lines() + "breath 40;"), -1 - lines().length());
        CHECK.due("no more 'breath': kind", x.fault(), 3);
    }

    private static void whatIsSo() {
        FoldRoads x = full();
        for (int f = 0; f < 12; f++) {
            int[] want = {ENDS.charAt(2 * f) - 'a', ENDS.charAt(2 * f + 1) - 'a', DEPTHS[f], f % 3, 0, 0};
            for (int i = 0; i < 6; i++) {
                CHECK.due("fold(" + f + ", " + i + ")", x.fold(f, i), want[i]);
            }
        }
        CHECK.due("fold(12, 0)", x.fold(12, 0), -1);
        for (int s = 0; s < 8; s++) {
            int folds = 0;
            for (int i = 0; i < 24; i++) {
                folds |= ENDS.charAt(i) - 'a' == s ? 1 << i / 2 : 0;
            }
            CHECK.due("spot(" + s + ", 0)", x.spot(s, 0), s == 7 ? 1 : 0);
            CHECK.due("spot(" + s + ", 1)", x.spot(s, 1), bitsAt(THING_SPOTS, s));
            CHECK.due("spot(" + s + ", 2)", x.spot(s, 2), folds);
            CHECK.due("spot(" + s + ", 3)", x.spot(s, 3), bitsAt(WALKER_SPOTS, s));
        }
        CHECK.due("spot(8, 0)", x.spot(8, 0), -1);
        for (int w = 0; w < 5; w++) {
            int[] want = {WALKER_SPOTS.charAt(w) - 'a', w + 1, -1, 0, 0, 0, 0};
            for (int i = 0; i < 7; i++) {
                CHECK.due("walker(" + w + ", " + i + ")", Texts.walker(x, w, i), want[i]);
            }
        }
        CHECK.due("walker(5, 0)", Texts.walker(x, 5, 0), Texts.THROWS);
    }

    private static int bitsAt(String spots, int s) {
        int bits = 0;
        for (int i = 0; i < spots.length(); i++) {
            bits |= spots.charAt(i) - 'a' == s ? 1 << i : 0;
        }
        return bits;
    }

    private static void deedsOfTheLast() {
        FoldRoads x = full();
        CHECK.due("takes(4, 11)", x.takes(4, 11), 2);
        CHECK.due("takes(0, 11)", x.takes(0, 11), 9);
        CHECK.due("learn(4, 5)", x.learn(4, 5), 0);
        CHECK.due("the last knows the last", Texts.walker(x, 4, 5), 32);
        CHECK.due("somebody knows it", x.now(4), 32);
        CHECK.due("walk(4, 11)", x.walk(4, 11), 0);
        CHECK.due("along the last", x.fold(11, 5), 16);
        CHECK.due("the last goes", x.now(2), 16);
        CHECK.due("whither", Texts.walker(x, 4, 0), 5);
        CHECK.due("slip(11, 30)", x.slip(11, 30), 2);
        CHECK.due("hours(2)", x.hours(2), 2);
        CHECK.due("tired", Texts.walker(x, 4, 4), 2);
        CHECK.due("slip(11, 30) now", x.slip(11, 30), 0);
        CHECK.due("slipped for 30", x.fold(11, 4), 30);
        CHECK.due("the last has slipped", x.now(3), 2048);
        CHECK.due("cream(11)", x.cream(11), 0);
        CHECK.due("creamed", x.fold(11, 2), 1);
        CHECK.due("back by e", x.walk(4, 4), 0);
        x.hours(1);
        CHECK.due("at e", x.spot(4, 3), 20);
        CHECK.due("tell(4, 2)", x.tell(4, 2), 0);
        CHECK.due("two know it", Texts.walker(x, 2, 5), 32);
        CHECK.due("learn(2, 3)", x.learn(2, 3), 0);
        CHECK.due("tell(2, 4)", x.tell(2, 4), 0);
        CHECK.due("he knows both", Texts.walker(x, 4, 5), 40);
        for (int i = 8; i > 0; i--) {
            CHECK.due("undo", x.undo(), i - 1);
        }
        CHECK.due("eight at most", x.undo(), -1);
        CHECK.due("the learning and the walk ahead of them stay", Texts.brief(x),
                "0 -1 0 0 -1 0 0 0 2 -1 0 0 0 4 -1 0 0 0 6 -1 0 0 0 5 11 2 0 32 "
                + "1 0 2 0 3 0 4 0 5 0 6 0 7 0 9 0 8 0 9 0 9 0 9 0 ");
    }

    private static void waysAndOrders() {
        FoldRoads x = full();
        CHECK.due("a to h", x.way(0, 7), 9);
        CHECK.due("by fold 7", x.wayAt(0), 7);
        x.slip(7, 30);
        CHECK.due("a to h round about", x.way(0, 7), 24);
        int[] folds = {0, 1, 2, 3, 4, 11, -1};
        for (int k = 0; k < 7; k++) {
            CHECK.due("wayAt(" + k + ")", x.wayAt(k), folds[k]);
        }
        x.undo();
        CHECK.due("all six things", x.gather(4), 8);
        int[] order = {0, 5, 1, 2, 3, 4, -1};
        for (int k = 0; k < 7; k++) {
            CHECK.due("gatherAt(" + k + ")", x.gatherAt(k), order[k]);
        }
        CHECK.due("reaches(4)", x.reaches(4), 255);
        CHECK.due("mean of h", Texts.mean(x, 7, 0), 25);
        CHECK.due("mean of h, below", Texts.mean(x, 7, 1), 3);
        for (int f = 6; f < 12; f++) {
            x.slip(f, 30);
        }
        CHECK.due("h alone", x.reaches(4), 128);
        CHECK.due("all but h", x.reaches(0), 127);
        CHECK.due("who is lost", x.now(5), 15);
    }

    private static void meetInnsCame() {
        FoldRoads x = full();
        CHECK.due("l and p", x.meet(0, 4), 2);
        CHECK.due("at a", x.meetAt(), 0);
        CHECK.due("p and p", x.meet(4, 4), 0);
        CHECK.due("at h", x.meetAt(), 7);
        CHECK.due("9 from h", Texts.came(x, 7, 9), 33);
        CHECK.due("0 from h", Texts.came(x, 7, 0), 128);
        CHECK.due("six pairs", Texts.came(x, 7, 9, 6, 6, 5, 0, 4, 5, 3, 9, 2, 12), 32);
        CHECK.due("the seventh", Texts.came(x, 7, 9, 6, 6, 5, 0, 4, 5, 3, 9, 2, 12, 1, 14), -1);
        FoldRoads slow = Texts.of(eightSpots() + "fold g h 9 laugh;walker p h 1;walker q g 5;");
        CHECK.due("who takes longer is not to go", slow.meet(0, 1), 2);
        CHECK.due("the last spot", slow.meetAt(), 7);
        CHECK.due("the other way round", slow.meet(1, 0), 2);
        CHECK.due("the last spot, too", slow.meetAt(), 7);
        FoldRoads lonely = Texts.of(eightSpots());
        CHECK.due("inns(99) of lonely spots", lonely.inns(99), 8);
        CHECK.due("all of them", lonely.innsAt(), 255);
        CHECK.due("inns(0) of the full one", x.inns(0), 7);
        CHECK.due("all but h", x.innsAt(), 127);
    }

    private static String eightSpots() {
        StringBuilder all = new StringBuilder();
        for (char s = 'a'; s <= 'h'; s++) {
            all.append("spot ").append(s).append(';');
        }
        return all.toString();
    }

    /** Seven SPOTS round the last one, all as far: asked at one of them, six are alike. */
    private static void asking() {
        StringBuilder star = new StringBuilder(eightSpots());
        for (char s = 'a'; s < 'h'; s++) {
            star.append("fold h ").append(s).append(" 2 laugh;");
        }
        FoldRoads x = Texts.of(star.toString());
        CHECK.due("2 from h", Texts.came(x, 7, 2), 127);
        CHECK.due("the first of seven", x.ask(), 0);
        x.cream(0);
        CHECK.due("2 from h but for a", Texts.came(x, 7, 2), 126);
        CHECK.due("the first of six", x.ask(), 1);
        x.slip(1, 30);
        x.slip(2, 30);
        x.slip(3, 30);
        CHECK.due("e, f, g", Texts.came(x, 7, 2), 112);
        CHECK.due("a tells no two apart, e tells one", x.ask(), 4);
    }

    private static void drawsAndTags() {
        FoldRoads x = full();
        CHECK.due("tag", Texts.tag(x, 4), "ppppppp at hhhhhhh");
        x.walk(4, 7);
        CHECK.due("tag of who goes", Texts.tag(x, 4), "ppppppp to aaaaaaa in 2");
        CHECK.due("the last byte", x.byteAt(22), '2');
        CHECK.due("no more", x.byteAt(23), -1);
        x.walk(0, 7);
        CHECK.due("nine hours", Texts.tag(x, 0), "lllllll to hhhhhhh in 9");
        for (int f = 0; f < 12; f++) {
            x.slip(f, 30);
        }
        CHECK.due("lost", Texts.tag(x, 3), "ooooooo at ggggggg lost");
        CHECK.due("lost, too", Texts.tag(x, 1), "mmmmmmm at ccccccc lost");
        CHECK.due("who goes is not", Texts.tag(x, 0), "lllllll to hhhhhhh in 9");

        FoldRoads y = full();
        Model model = new Model();
        putModel(model, padded(900));
        model.valley();
        CHECK.due("drawn(60, 6)", y.drawn(60, 6), model.drawn(60, 6));
        for (int w = 0; w < 5; w++) {
            for (int i = 0; i < 7; i++) {
                CHECK.due("drawn: walker(" + w + ", " + i + ")", y.walker(w, i), model.walker(w, i));
            }
            CHECK.due("odds(" + w + ", 30, 6)", y.odds(w, 30, 6), model.odds(w, 30, 6));
        }
    }

    private static void putModel(Model model, String text) {
        for (int i = 0; i < text.length(); i += 20) {
            int[] five = new int[5];
            for (int k = 0; k < 20; k++) {
                five[k / 4] = five[k / 4] << 8 | (i + k < text.length() ? text.charAt(i + k) : 0);
            }
            model.feed(five[0], five[1], five[2], five[3], five[4]);
        }
        model.end(text.length());
    }

    private static String book(String last, int bytes) {
        StringBuilder all = new StringBuilder(Texts.times("hour 1;", 39));
        all.append(last);
        while (all.length() < bytes) {
            all.insert(all.length() - 1, ' ');
        }
        return all.toString();
    }

    private static void books() {
        FoldRoads x = full();
        CHECK.due("40 lines, 400 bytes, the last walker last", Texts.book(x, book("ppppppp goes 11;", 400), 1), -1);
        CHECK.due("told", x.told(1), 40);
        CHECK.due("he goes", x.fold(11, 5), 16);
        CHECK.due("401 bytes", Texts.book(x, book("ppppppp goes 11;", 401), 1), -402);
        CHECK.due("401 bytes: kind", x.fault(), 1);
        CHECK.due("told stays", x.told(1), 40);
        CHECK.due("hour 39", x.now(0), 39);
        x.undo();
        CHECK.due("a slip last", Texts.book(x, book("slip 11 30;", 400), 1), -1);
        CHECK.due("for 30", x.fold(11, 4), 30);
        x.undo();
        CHECK.due("the last thing last", Texts.book(x, book("ppppppp learns yyyyyyy;", 400), 1), -1);
        CHECK.due("he knows it", Texts.walker(x, 4, 5), 32);
        CHECK.due("the 40th is wrong", Texts.book(x, book("ppppppp tells ppppppp;", 400), 0), 39);
        CHECK.due("39 are ahead", x.told(1), 39);
        CHECK.due("why", x.told(0), 21);
        CHECK.due("cream 11", Texts.book(x, book("cream 11;", 300), 1), -1);
        CHECK.due("creamed", x.fold(11, 2), 1);
        CHECK.due("a 41st", Texts.book(x, book("cream 11;", 300) + "cream 11;", 1), -302);
        CHECK.due("a 41st: kind", x.fault(), 4);
    }

    private static void sentences() {
        FoldRoads x = full();
        x.learn(4, 5);
        CHECK.due("all of the last", Texts.sentence(x, "at hhhhhhh and knows yyyyyyy and number = 4 and pace = 5"), 4);
        CHECK.due("of one", x.said(-1), 1);
        CHECK.due("the last one", x.said(0), 4);
        CHECK.due("of none else", x.said(1), -1);
        StringBuilder twenty = new StringBuilder("knows yyyyyyy");
        for (int i = 0; i < 19; i++) {
            twenty.append(" or lost");
        }
        CHECK.due("20 ones, 200 bytes", Texts.sentence(x, twenty + Texts.times(" ", 200 - twenty.length())), 20);
        CHECK.due("of the last one", x.said(0), 4);
        CHECK.due("201 bytes", Texts.sentence(x, twenty + Texts.times(" ", 201 - twenty.length())), -201);
        CHECK.due("201 bytes: kind", x.fault(), 1);
        CHECK.due("a 21st", Texts.sentence(x, twenty + " or lost"), -1 - twenty.length() - 4);
        CHECK.due("a 21st: kind", x.fault(), 4);
        Texts.sentence(x, "number < 5");
        CHECK.due("of all", x.said(-1), 5);
        for (int k = 0; k < 5; k++) {
            CHECK.due("said(" + k + ")", x.said(k), k);
        }
        CHECK.due("said(5)", x.said(5), -1);
        Texts.sentence(x, "left = 0 and tired = 0 and not going");
        CHECK.due("of all again", x.said(-1), 5);
    }

    private static void images() {
        FoldRoads x = full();
        x.learn(4, 5);
        x.walk(4, 11);
        x.slip(10, 30);
        x.hours(1);
        String before = Texts.brief(x);
        x.image(0);
        Texts.valley(x, "spot z;walker y z 1;");
        x.restore(0);
        CHECK.due("restored", Texts.brief(x), before);
        CHECK.due("its last name", Texts.tag(x, 4), "ppppppp to fffffff in 1");
        CHECK.due("its last thing", x.spot(7, 1), 33);
        CHECK.due("its last fold", x.fold(11, 0), 7);
        CHECK.due("'breath'", x.count(4), 40);
        CHECK.due("a name of each sort", Texts.book(x, "ppppppp learns yyyyyyy;", 0), 0);
        CHECK.due("he goes", x.told(0), 11);
    }

    /** Of the full one nothing is told behind a smaller one. */
    private static void smallerBehind() {
        for (String text : new String[] {Texts.FACE, Twins.VALLEY, "spot a;spot b;walker p b 2;",
            "spot a;spot b;fold a b 3 laugh;thing t b;walker p a 1;", ""}) {
            FoldRoads x = full();
            x.drawn(60, 6);
            Texts.sentence(x, "number < 5");
            Texts.valley(x, text);
            FoldRoads fresh = Texts.of(text);
            CHECK.due("all of '" + text + "'", Texts.all(x) + reckoned(x), Texts.all(fresh) + reckoned(fresh));
        }
    }

    private static String reckoned(FoldRoads x) {
        StringBuilder all = new StringBuilder();
        for (int s = 0; s < 8; s++) {
            all.append(Texts.mean(x, s, 0)).append('/').append(Texts.mean(x, s, 1)).append(' ');
            all.append(x.way(0, s)).append(' ').append(Texts.came(x, s, 2)).append(' ');
        }
        for (int w = 0; w < 5; w++) {
            all.append(x.reaches(w)).append(' ').append(x.gather(w)).append(' ').append(x.meet(0, w)).append(' ');
            all.append(Texts.tag(x, w)).append(' ').append(x.odds(w, 5, 6)).append(' ');
        }
        all.append(x.inns(0)).append(' ').append(x.innsAt()).append(' ').append(x.inns(9)).append(' ');
        all.append(x.innsAt()).append(' ').append(x.drawn(60, 5)).append(' ').append(Texts.brief(x));
        return all.append(x.said(-1)).append(x.undo()).append(x.undo()).toString();
    }

    private static void tape() {
        FoldRoads x = new FoldRoads();
        Texts.put(x, padded(900));
        CHECK.due("two more feeds", x.feed(0, 0, 0, 0, 0), 920);
        CHECK.due("the second", x.feed(0, 0, 0, 0, 0), 940);
        CHECK.due("no third", x.feed(0, 0, 0, 0, 0), -1);
        CHECK.due("940 bytes are more than 900", x.valley(), -901);
        CHECK.due("no more than there were", x.count(5), 0);
        Texts.put(x, padded(900));
        x.feed(0, 0, 0, 0, 0);
        x.feed(0, 0, 0, 0, 0);
        CHECK.due("end(900)", x.end(900), true);
        CHECK.due("its first 900 bytes alone", x.valley(), 32);
    }
}
