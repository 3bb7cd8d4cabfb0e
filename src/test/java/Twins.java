import java.util.NoSuchElementException;

/**
 * Pairs of objects made alike, in which nearly all that can be so is so. One of a pair is asked a call that
 * must leave something as it was; then both must tell the same. No object is used for more than 512 calls.
 */
final class Twins {
    /** b is the first SPOT, so that the first of all is not the answer to every question. */
    static final String VALLEY = "spot b;spot a inn;spot c;spot d inn;spot e;fold a b 2 laugh;fold b c 2 worry;"
            + "fold c d 2 frown;fold d b 5 laugh;thing t c;thing u b;walker p a 1;walker q d 2;walker r b 1;breath 8;";

    /** Something asked of an object, or done with it ahead of that. */
    interface Call {
        long on(FoldRoads x);
    }

    private static final Call NOTHING = x -> 0;

    private Twins() {
    }

    /**
     * p at a; q at c, 1 tired, knows t; r goes to a for 2 hours; the fold d b slipped for 9; six deeds can be
     * undone; two images, a sentence, one of every answer that stays, a FAULT of 2, a text on the tape.
     */
    static FoldRoads make() {
        FoldRoads x = Texts.of(VALLEY);
        Texts.sentence(x, "not number = 1");
        x.walk(1, 2);
        x.hours(1);
        x.image(0);
        x.learn(1, 0);
        x.mood(2);
        x.walk(2, 0);
        x.slip(3, 9);
        x.image(1);
        x.way(0, 3);
        x.gather(0);
        x.meet(0, 0);
        x.inns(2);
        Texts.came(x, 0, 2);
        x.tag(2);
        Texts.book(x, "hour 2;cream 9;", 0);
        Texts.book(x, "hour 99;", 0);
        Texts.put(x, "hour 1;p rests;");
        return x;
    }

    /** The call is refused with this answer, and all stays as it was. */
    static void refuses(Check check, String call, long want, Call asked) {
        refuses(check, call, want, NOTHING, asked);
    }

    static void refuses(Check check, String call, long want, Call ahead, Call asked) {
        FoldRoads x = make();
        FoldRoads y = make();
        ahead.on(x);
        ahead.on(y);
        check.due(call, asked.on(x), want);
        check.due("all behind " + call, toldLast(x) + texts(x) + state(x), toldLast(y) + texts(y) + state(y));
    }

    /** The call throws, and all stays as it was. */
    static void throwsIt(Check check, String call, Call asked) {
        refuses(check, call, Texts.THROWS, x -> {
            try {
                return asked.on(x);
            } catch (NoSuchElementException e) {
                return Texts.THROWS;
            }
        });
    }

    /** The call is answered; what it tells last is its own, all else stays as it was. */
    static void answers(Check check, String call, long want, Call asked) {
        FoldRoads x = make();
        FoldRoads y = make();
        check.due(call, asked.on(x), want);
        check.due("what is so behind " + call, texts(x) + state(x), texts(y) + state(y));
    }

    /** A text with a FAULT: the tape is empty and the FAULT is told, all else stays as it was. */
    static void faults(Check check, String text, Call asked, long want, int kind) {
        FoldRoads x = make();
        FoldRoads y = make();
        x.end(0);
        y.end(0);
        Texts.put(x, text);
        check.due("'" + text + "'", asked.on(x), want);
        check.due("kind of '" + text + "'", x.fault(), kind);
        check.due("tape behind '" + text + "'", x.count(5), 0);
        check.due("all behind '" + text + "'", toldLast(x) + state(x), toldLast(y) + state(y));
    }

    /** The call is done; what other calls told last stays. */
    static void leavesTold(Check check, String call, long want, Call asked) {
        FoldRoads x = make();
        String before = toldLast(x);
        check.due(call, asked.on(x), want);
        check.due("told last behind " + call, toldLast(x), before);
    }

    /** Every answer that stays till its call is asked again. */
    private static String toldLast(FoldRoads x) {
        StringBuilder all = new StringBuilder("told last: ");
        for (int k = -1; k < 4; k++) {
            all.append(x.wayAt(k)).append(' ').append(x.gatherAt(k)).append(' ').append(x.told(k)).append(' ');
        }
        for (int i = 0; x.byteAt(i) != FoldRoads.NONE; i++) {
            all.append((char) x.byteAt(i));
        }
        return all.append(' ').append(x.meetAt()).append(' ').append(x.innsAt()).append(' ').append(x.ask()).toString();
    }

    /** The FAULT, and the tape read as a BOOK. */
    private static String texts(FoldRoads x) {
        return " texts: " + x.fault() + " " + x.count(5) + " " + x.book(0) + " " + x.told(0) + " " + x.told(2);
    }

    /** All that is so, of whom the sentence may be said, all that can be undone, and the images. */
    private static String state(FoldRoads x) {
        StringBuilder all = new StringBuilder(" state: ").append(Texts.all(x)).append(x.said(-1)).append(x.said(1));
        int more = x.undo();
        while (more >= 0) {
            all.append(" undo ").append(more).append(": ").append(Texts.brief(x));
            more = x.undo();
        }
        for (int k = 0; k < 2; k++) {
            all.append(" image ").append(x.restore(k)).append(": ").append(Texts.brief(x)).append(x.said(-1));
        }
        return all.toString();
    }
}
