/**
 * What a call leaves as it was, promise by promise. Each call that answers NONE, false, why not, or throws is
 * asked of one of two Twins, behind which both must tell the same of everything. Questions that are answered
 * leave what is so; deeds that are done leave what other calls told last.
 */
public final class StaysTest {
    private static final Check CHECK = new Check("StaysTest");
    private static final int MIN = Integer.MIN_VALUE;
    private static final int MAX = Integer.MAX_VALUE;

    public static void main(String[] args) {
        tape();
        textsWithFaults();
        whatIsSo();
        walk();
        learn();
        tell();
        rest();
        creamSlipMood();
        hoursAndDraws();
        undo();
        wayAndReaches();
        gather();
        meetAndInns();
        came();
        meanAndTag();
        oddsAndBooks();
        saidImagesCount();
        questionsChangeNothing();
        deedsLeaveWhatWasTold();
        CHECK.finish();
    }

    private static void none(String call, Twins.Call asked) {
        Twins.refuses(CHECK, call, FoldRoads.NONE, asked);
    }

    private static void why(String call, long why, Twins.Call asked) {
        Twins.refuses(CHECK, call, why, asked);
    }

    private static long feeds(FoldRoads x, int many) {
        for (int i = 0; i < many; i++) {
            x.feed(0x686f7572, 0x20313b20, 0x20202020, 0x20202020, 0x20202020);
        }
        return x.count(5);
    }

    private static void tape() {
        Twins.refuses(CHECK, "feed onto 935 bytes", -1, x -> feeds(x, 46), x -> x.feed(-1, -1, -1, -1, -1));
        Twins.refuses(CHECK, "feed onto 921 bytes", -1, x -> {
            x.end(1);
            return feeds(x, 46);
        }, x -> x.feed(-1, -1, -1, -1, -1));
        for (int n : new int[] {-1, 16, 20, MIN, MAX}) {
            Twins.refuses(CHECK, "end(" + n + ") of 15", 0, x -> x.end(n) ? 1 : 0);
        }
        Twins.refuses(CHECK, "end(15) of 15", 1, x -> x.end(15) ? 1 : 0);
    }

    private static void textsWithFaults() {
        Twins.faults(CHECK, "spot z;walker y z 9;", FoldRoads::valley, -19, 2);
        Twins.faults(CHECK, "breath 9;spot z inn;thing z z;", FoldRoads::valley, -27, 3);
        Twins.faults(CHECK, "?", FoldRoads::valley, -1, 1);
        Twins.faults(CHECK, "hour 1;mood laugh;p goes 12;", x -> x.book(1), -27, 2);
        Twins.faults(CHECK, "hour 1;p learns a;", x -> x.book(0), -18, 3);
        Twins.faults(CHECK, ";", x -> x.book(1), -2, 1);
        Twins.faults(CHECK, "going or at t", FoldRoads::sentence, -13, 3);
        Twins.faults(CHECK, "", FoldRoads::sentence, -1, 1);
        Twins.faults(CHECK, "(going or lost", FoldRoads::sentence, -15, 1);
        Twins.faults(CHECK, Texts.times("not ", 8) + "lost", FoldRoads::sentence, -33, 4);
    }

    private static void whatIsSo() {
        for (int w : new int[] {-1, 3, 5, MIN, MAX}) {
            Twins.throwsIt(CHECK, "walker(" + w + ", 0)", x -> x.walker(w, 0));
        }
        for (int what : new int[] {-1, 7, MIN, MAX}) {
            Twins.throwsIt(CHECK, "walker(0, " + what + ")", x -> x.walker(0, what));
        }
        for (int f : new int[] {-1, 4, 12, MIN, MAX}) {
            none("fold(" + f + ", 0)", x -> x.fold(f, 0));
        }
        for (int what : new int[] {-1, 6, MIN, MAX}) {
            none("fold(0, " + what + ")", x -> x.fold(0, what));
        }
        for (int s : new int[] {-1, 5, 8, MIN, MAX}) {
            none("spot(" + s + ", 0)", x -> x.spot(s, 0));
        }
        for (int what : new int[] {-1, 4, MIN, MAX}) {
            none("spot(0, " + what + ")", x -> x.spot(0, what));
        }
        for (int what : new int[] {-1, 8, MIN, MAX}) {
            none("now(" + what + ")", x -> x.now(what));
        }
    }

    private static void walk() {
        for (int w : new int[] {-1, 3, MIN, MAX}) {
            none("walk(" + w + ", 0)", x -> x.walk(w, 0));
        }
        for (int f : new int[] {-1, 4, MIN, MAX}) {
            none("walk(0, " + f + ")", x -> x.walk(0, f));
        }
        why("walk: he is going", 1, x -> x.walk(2, 0));
        why("walk: it does not lead from a", 2, x -> x.walk(0, 2));
        Twins.refuses(CHECK, "walk: it has slipped", 3, x -> {
            x.walk(0, 0);
            return x.hours(2);
        }, x -> x.walk(0, 3));
        Twins.refuses(CHECK, "walk: 8 tired and 2 is more than 8", 4, x -> {
            for (int i = 0; i < 4; i++) {
                x.walk(0, 0);
                x.hours(2);
            }
            return x.walker(0, 4);
        }, x -> x.walk(0, 0));
    }

    private static void learn() {
        for (int w : new int[] {-1, 3, MIN, MAX}) {
            none("learn(" + w + ", 0)", x -> x.learn(w, 0));
        }
        for (int t : new int[] {-1, 2, MIN, MAX}) {
            none("learn(0, " + t + ")", x -> x.learn(0, t));
        }
        why("learn: he is going", 1, x -> x.learn(2, 1));
        why("learn: it is not there", 2, x -> x.learn(0, 0));
        why("learn: he knows it", 3, x -> x.learn(1, 0));
    }

    private static void tell() {
        for (int w : new int[] {-1, 3, MIN, MAX}) {
            none("tell(" + w + ", 0)", x -> x.tell(w, 0));
            none("tell(0, " + w + ")", x -> x.tell(0, w));
        }
        why("tell: they are alike", 1, x -> x.tell(1, 1));
        why("tell: the other one is going", 1, x -> x.tell(1, 2));
        why("tell: he is going", 1, x -> x.tell(2, 1));
        why("tell: at unlike spots", 1, x -> x.tell(1, 0));
        Twins.refuses(CHECK, "tell: he knows nothing", 2, x -> x.hours(2), x -> x.tell(2, 0));
    }

    private static void rest() {
        for (int w : new int[] {-1, 3, MIN, MAX}) {
            none("rest(" + w + ")", x -> x.rest(w));
        }
        why("rest: he is going, to an inn", 1, x -> x.rest(2));
        why("rest: there is no inn", 2, x -> x.rest(1));
        why("rest: he is not tired", 3, x -> x.rest(0));
    }

    private static void creamSlipMood() {
        for (int f : new int[] {-1, 4, MIN, MAX}) {
            none("cream(" + f + ")", x -> x.cream(f));
            none("slip(" + f + ", 1)", x -> x.slip(f, 1));
        }
        Twins.refuses(CHECK, "cream: it is 1 deep", 1, x -> x.cream(1), x -> x.cream(1));
        for (int n : new int[] {0, 31, -1, MIN, MAX}) {
            none("slip(1, " + n + ")", x -> x.slip(1, n));
        }
        why("slip: it has slipped", 1, x -> x.slip(3, 1));
        why("slip: r is going along it", 2, x -> x.slip(0, 1));
        for (int kind : new int[] {-1, 3, MIN, MAX}) {
            none("mood(" + kind + ")", x -> x.mood(kind));
        }
        why("mood: it is that", 1, x -> x.mood(2));
    }

    private static long toTheLastHour(FoldRoads x) {
        for (int i = 0; i < 7; i++) {
            x.hours(60);
        }
        return x.now(0);
    }

    private static void hoursAndDraws() {
        for (int n : new int[] {0, 61, -1, MIN, MAX}) {
            none("hours(" + n + ")", x -> x.hours(n));
            none("drawn(" + n + ", 1)", x -> x.drawn(n, 1));
        }
        Twins.refuses(CHECK, "hours: all are over", 0, StaysTest::toTheLastHour, x -> x.hours(1));
        Twins.refuses(CHECK, "drawn: all are over", 0, StaysTest::toTheLastHour, x -> x.drawn(60, 2));
    }

    private static void undo() {
        Twins.refuses(CHECK, "undo: none is", -1, x -> {
            for (int i = 5; i >= 0; i--) {
                CHECK.due("undo, more", x.undo(), i);
            }
            return x.count(0);
        }, FoldRoads::undo);
        Twins.refuses(CHECK, "undo behind a restore", -1, x -> x.restore(0) ? 1 : 0, FoldRoads::undo);
    }

    private static void wayAndReaches() {
        for (int w : new int[] {-1, 3, MIN, MAX}) {
            none("takes(" + w + ", 0)", x -> x.takes(w, 0));
            none("way(" + w + ", 0)", x -> x.way(w, 0));
            none("reaches(" + w + ")", x -> x.reaches(w));
        }
        for (int f : new int[] {-1, 4, MIN, MAX}) {
            none("takes(0, " + f + ")", x -> x.takes(0, f));
        }
        for (int s : new int[] {-1, 5, MIN, MAX}) {
            none("way(0, " + s + ")", x -> x.way(0, s));
        }
        none("way: there is none to e", x -> x.way(0, 4));
        none("way: he is going", x -> x.way(2, 1));
        none("reaches: he is going", x -> x.reaches(2));
        for (int k : new int[] {-1, 3, MIN, MAX}) {
            none("wayAt(" + k + ") of three", x -> x.wayAt(k));
        }
    }

    private static void gather() {
        for (int w : new int[] {-1, 3, MIN, MAX}) {
            none("gather(" + w + ")", x -> x.gather(w));
        }
        none("gather: he is going", x -> x.gather(2));
        Twins.refuses(CHECK, "gather: c is cut off", -1, x -> x.slip(1, 9), x -> x.gather(0));
        for (int k : new int[] {-1, 2, MIN, MAX}) {
            none("gatherAt(" + k + ") of two", x -> x.gatherAt(k));
        }
    }

    private static void meetAndInns() {
        for (int w : new int[] {-1, 3, MIN, MAX}) {
            none("meet(" + w + ", 0)", x -> x.meet(w, 0));
            none("meet(0, " + w + ")", x -> x.meet(0, w));
        }
        none("meet: the other one is going", x -> x.meet(0, 2));
        none("meet: he is going", x -> x.meet(2, 0));
        Twins.refuses(CHECK, "meet: nowhere", -1, x -> x.slip(1, 9), x -> x.meet(0, 1));
        for (int n : new int[] {-1, 100, MIN, MAX}) {
            none("inns(" + n + ")", x -> x.inns(n));
        }
    }

    private static void cameIs(String why, long want, int... bytes) {
        Twins.refuses(CHECK, "came: " + why, want, x -> x.end(0) ? 1 : 0, x -> Texts.came(x, bytes));
    }

    private static void came() {
        cameIs("no pair", -1);
        cameIs("half a pair", -1, 0);
        cameIs("a pair and a half", -1, 0, 2, 0);
        cameIs("six pairs and a half", -1, 0, 2, 0, 2, 0, 2, 0, 2, 0, 2, 0, 2, 0);
        cameIs("seven pairs", -1, 0, 2, 0, 2, 0, 2, 0, 2, 0, 2, 0, 2, 0, 2);
        cameIs("no such spot", -1, 5, 2);
        cameIs("no such spot in the last pair", -1, 0, 2, 1, 4, 255, 0);
        cameIs("from no spot", 0, 0, 5);
        cameIs("from no spot by the second pair", 0, 0, 2, 1, 3);
    }

    private static void meanAndTag() {
        for (int s : new int[] {-1, 4, 5, MIN, MAX}) {
            Twins.throwsIt(CHECK, "mean(" + s + ", 0)", x -> x.mean(s, 0));
        }
        for (int what : new int[] {-1, 2, MIN, MAX}) {
            Twins.throwsIt(CHECK, "mean(0, " + what + ")", x -> x.mean(0, what));
        }
        for (int w : new int[] {-1, 3, MIN, MAX}) {
            none("tag(" + w + ")", x -> x.tag(w));
        }
        for (int i : new int[] {-1, 11, 32, MIN, MAX}) {
            none("byteAt(" + i + ") of 'r to a in 2'", x -> x.byteAt(i));
        }
    }

    private static void oddsAndBooks() {
        for (int w : new int[] {-1, 3, MIN, MAX}) {
            none("odds(" + w + ", 9, 1)", x -> x.odds(w, 9, 1));
        }
        for (int n : new int[] {0, 31, -1, MIN, MAX}) {
            none("odds(0, " + n + ", 1)", x -> x.odds(0, n, 1));
        }
        for (int lives : new int[] {-1, 2, MIN, MAX}) {
            why("book(" + lives + ")", -1000, x -> x.book(lives));
        }
        for (int what : new int[] {-1, 4, MIN, MAX}) {
            none("told(" + what + ")", x -> x.told(what));
        }
    }

    private static void saidImagesCount() {
        for (int k : new int[] {-2, 2, MIN, MAX}) {
            none("said(" + k + ") of two", x -> x.said(k));
        }
        for (int k : new int[] {-1, 2, MIN, MAX}) {
            why("image(" + k + ")", 0, x -> x.image(k) ? 1 : 0);
            why("restore(" + k + ")", 0, x -> x.restore(k) ? 1 : 0);
        }
        for (int what : new int[] {-1, 6, MIN, MAX}) {
            none("count(" + what + ")", x -> x.count(what));
        }
        for (int k = 0; k < 2; k++) {
            FoldRoads x = Texts.of(Twins.VALLEY);
            x.image(1 - k);
            x.mood(k);
            CHECK.due("restore(" + k + "), nothing is kept there", x.restore(k), false);
            CHECK.due("the mood stays", x.now(1), k);
            CHECK.due("undo stays", x.undo(), 0);
        }
    }

    private static void questionsChangeNothing() {
        Twins.answers(CHECK, "takes(1, 3)", 3, x -> x.takes(1, 3));
        Twins.answers(CHECK, "way(1, 1)", 2, x -> x.way(1, 1));
        Twins.answers(CHECK, "reaches(1)", 15, x -> x.reaches(1));
        Twins.answers(CHECK, "gather(1)", 1, x -> x.gather(1));
        Twins.answers(CHECK, "meet(0, 1)", 2, x -> x.meet(0, 1));
        Twins.answers(CHECK, "inns(99)", 1, x -> x.inns(99));
        Twins.answers(CHECK, "mean(0, 0)", 3, x -> x.mean(0, 0));
        Twins.answers(CHECK, "tag(0)", 6, x -> x.tag(0));
        Twins.answers(CHECK, "odds(1, 30, 5) is at least 0", 1, x -> x.odds(1, 30, 5) >= 0 ? 1 : 0);
        Twins.answers(CHECK, "said(1)", 2, x -> x.said(1));
        Twins.answers(CHECK, "walker(2, 6)", 0, x -> x.walker(2, 6));
        Twins.answers(CHECK, "now(5)", 0, x -> x.now(5));
    }

    private static void leavesTold(String call, long want, Twins.Call asked) {
        Twins.leavesTold(CHECK, call, want, asked);
    }

    private static void deedsLeaveWhatWasTold() {
        leavesTold("walk(0, 0)", 0, x -> x.walk(0, 0));
        leavesTold("learn(2, 0) behind hours and a walk", 0, x -> {
            x.hours(2);
            x.walk(2, 0);
            x.hours(2);
            return x.learn(2, 1);
        });
        leavesTold("tell(1, 0) behind hours and a walk", 0, x -> {
            x.walk(0, 0);
            x.walk(1, 1);
            x.hours(2);
            return x.tell(1, 0);
        });
        leavesTold("rest(2) behind hours", 0, x -> {
            x.hours(2);
            return x.rest(2);
        });
        leavesTold("cream(0)", 0, x -> x.cream(0));
        leavesTold("slip(1, 1)", 0, x -> x.slip(1, 1));
        leavesTold("mood(0)", 0, x -> x.mood(0));
        leavesTold("hours(60)", 60, x -> x.hours(60));
        leavesTold("undo()", 5, FoldRoads::undo);
        leavesTold("drawn(60, 1)", 60, x -> x.drawn(60, 1));
        leavesTold("sentence()", 1, x -> {
            x.end(0);
            return Texts.sentence(x, "lost");
        });
        leavesTold("valley()", 1, x -> {
            x.end(0);
            return Texts.valley(x, "spot z inn;");
        });
        leavesTold("image(0)", 1, x -> x.image(0) ? 1 : 0);
        leavesTold("restore(0)", 1, x -> x.restore(0) ? 1 : 0);
        leavesTold("feed", 35, x -> x.feed(1, 2, 3, 4, 5));
        leavesTold("end(0)", 1, x -> x.end(0) ? 1 : 0);
    }
}
