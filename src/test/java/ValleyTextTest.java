/** Promises 1 to 5 and 42: a new object, the tape, the text of a VALLEY and its FAULTS. */
public final class ValleyTextTest {
    private static final Check CHECK = new Check("ValleyTextTest");
    private static final String TWO = "spot a;spot b;";

    public static void main(String[] args) {
        newObject();
        feed();
        end();
        behindTheEnd();
        valley();
        oldStays();
        noTokens();
        tokensThatCannotCome();
        numbersNotAsTold();
        namesNotAsTold();
        tooMany();
        mostBytes();
        leastOfOneToken();
        fault();
        count();
        CHECK.finish();
    }

    private static void newObject() {
        FoldRoads x = new FoldRoads();
        CHECK.due("new all", Texts.all(x), "0 0 0 0 12 0 0 -1 0 0 0 0 0 0 ");
        CHECK.due("new fault", x.fault(), 0);
        CHECK.due("new undo", x.undo(), -1);
        CHECK.due("new said", x.said(-1), -1);
        CHECK.due("new wayAt", x.wayAt(0), -1);
        CHECK.due("new gatherAt", x.gatherAt(0), -1);
        CHECK.due("new meetAt", x.meetAt(), -1);
        CHECK.due("new innsAt", x.innsAt(), -1);
        CHECK.due("new ask", x.ask(), -1);
        CHECK.due("new byteAt", x.byteAt(0), -1);
        CHECK.due("new told", x.told(0), -1);
        CHECK.due("new restore", x.restore(0), false);
        CHECK.due("NONE", FoldRoads.NONE, -1);
    }

    private static void feed() {
        FoldRoads x = new FoldRoads();
        for (int i = 1; i <= 47; i++) {
            CHECK.due("feed " + i, x.feed(0, 0, 0, 0, 0), 20 * i);
        }
        CHECK.due("feed beyond 940", x.feed(0, 0, 0, 0, 0), -1);
        CHECK.due("none came", x.count(5), 940);
        x.end(921);
        CHECK.due("feed on 921", x.feed(0, 0, 0, 0, 0), -1);
        CHECK.due("still 921", x.count(5), 921);
        x.end(920);
        CHECK.due("feed on 920", x.feed(0, 0, 0, 0, 0), 940);

        x = new FoldRoads();
        CHECK.due("feed digits", x.feed(0x73706f74, 0x20616263, 0x3b73706f, 0x7420640a, 0x20203b20), 20);
        CHECK.due("highest byte first", x.valley(), 2);
        CHECK.due("two spots", x.count(0), 2);

        x = new FoldRoads();
        x.feed(0xff000000, 0, 0, 0, 0);
        x.end(1);
        CHECK.due("a negative number's highest byte", x.valley(), -1);
    }

    private static void end() {
        FoldRoads x = new FoldRoads();
        CHECK.due("end 0 of none", x.end(0), true);
        CHECK.due("end 1 of none", x.end(1), false);
        Texts.put(x, "spot a;spot b;");
        CHECK.due("end 15 of 14", x.end(15), false);
        CHECK.due("end below 0", x.end(-1), false);
        CHECK.due("end of the least int", x.end(Integer.MIN_VALUE), false);
        CHECK.due("end 14 of 14", x.end(14), true);
        CHECK.due("as many as ahead", x.count(5), 14);
        CHECK.due("end 7", x.end(7), true);
        CHECK.due("seven", x.count(5), 7);
        CHECK.due("the first bytes stay", x.valley(), 1);
    }

    /** What lay behind the end is not read, whatever TOKEN it would go on. */
    private static void behindTheEnd() {
        int[] due = {0, -1, -1, -1, -1, -1, -7, -8, -8, -10, -8, -8};
        int[] kinds = {0, 1, 1, 1, 1, 1, 1, 1, 2, 1, 2, 1};
        for (int n = 0; n < due.length; n++) {
            FoldRoads x = new FoldRoads();
            Texts.put(x, "breath 12345;");
            x.end(n);
            CHECK.due("the first " + n + " bytes of 'breath 12345;'", x.valley(), due[n]);
            CHECK.due("kind of the first " + n + " bytes", x.fault(), kinds[n]);
        }
        FoldRoads x = new FoldRoads();
        Texts.put(x, "spot abcdefghi;");
        x.end(13);
        CHECK.due("eight letters", x.valley(), -6);
        Texts.put(x, "spot abcdefghi;");
        x.end(12);
        CHECK.due("seven letters", x.valley(), -13);
        Texts.put(x, "goingoinggoing or lost");
        x.end(5);
        CHECK.due("the word that is left", x.sentence(), 1);
    }

    private static void valley() {
        FoldRoads x = new FoldRoads();
        CHECK.due("face", Texts.valley(x, Texts.FACE), 14);
        CHECK.due("tape is empty", x.count(5), 0);
        CHECK.due("no text", x.valley(), 0);
        CHECK.due("no text is a valley", x.count(0), 0);
        CHECK.due("blanks alone", Texts.valley(x, " \n \n"), 0);
        CHECK.due("blanks", Texts.valley(x, "\n spot\n\na  inn ;\nspot b\n;fold a b 1 frown ; "), 3);
        CHECK.due("inn", x.spot(0, 0), 1);
        CHECK.due("no inn", x.spot(1, 0), 0);
        CHECK.due("no blanks", Texts.valley(x, "breath 40;spot abcdefg;thing t abcdefg;walker w abcdefg 05;"), 4);
        CHECK.due("pace 05", x.walker(0, 1), 5);
        CHECK.due("depth 009", Texts.valley(x, TWO + "fold b a 009 worry;"), 3);
        CHECK.due("depth", x.fold(0, 2), 9);
        CHECK.due("first as told", x.fold(0, 0), 1);
        CHECK.due("second as told", x.fold(0, 1), 0);
        CHECK.due("breath 2", Texts.valley(x, "breath 2;"), 1);
        CHECK.due("two", x.count(4), 2);
        CHECK.due("none told", Texts.valley(x, "spot a;"), 1);
        CHECK.due("twelve again", x.count(4), 12);

        x = Texts.of(Texts.FACE);
        Texts.sentence(x, "going");
        x.walk(0, 0);
        x.hours(2);
        x.learn(0, 1);
        x.mood(2);
        x.slip(3, 9);
        String fresh = Texts.all(Texts.of(Texts.FACE));
        CHECK.due("face again", Texts.valley(x, Texts.FACE), 14);
        CHECK.due("all anew", Texts.all(x), fresh);
        CHECK.due("no sentence", x.said(-1), -1);
        CHECK.due("nothing to undo", x.undo(), -1);
        x.walk(0, 0);
        x.walk(1, 3);
        Texts.valley(x, "spot a;spot b;walker w a 1;walker v b 1;");
        CHECK.due("nobody is going", x.now(2), 0);
        CHECK.due("no inns of the old one", x.spot(0, 0), 0);
        CHECK.due("both are lost", x.now(5), 3);
    }

    private static void oldStays() {
        FoldRoads x = Texts.of(Texts.FACE);
        Texts.sentence(x, "housed");
        x.walk(0, 0);
        x.hours(1);
        String before = Texts.all(x);
        CHECK.due("a fault behind good lines", Texts.valley(x, "spot a;spot b inn;breath 9;spot a;"), -33);
        CHECK.due("all stays", Texts.all(x), before);
        CHECK.due("the sentence stays", x.said(-1), 1);
        CHECK.due("undo stays", x.undo(), 1);
        CHECK.due("tape is empty", x.count(5), 0);
    }

    private static void refused(String text, int kind, int place) {
        FoldRoads x = new FoldRoads();
        CHECK.due("place of '" + text + "'", Texts.valley(x, text), -1 - place);
        CHECK.due("kind of '" + text + "'", x.fault(), kind);
        CHECK.due("tape behind '" + text + "'", x.count(5), 0);
    }

    private static void taken(String text, int lines) {
        CHECK.due("'" + text + "'", Texts.valley(new FoldRoads(), text), lines);
    }

    private static void noTokens() {
        refused("Spot a;", 1, 0);
        refused("spot abcdefgh;", 1, 5);
        refused("spot a1;", 1, 5);
        refused("spot 1a;", 1, 5);
        refused("spot a;spot b;fold a b 1x laugh;", 1, 23);
        refused("breath 0012;", 1, 7);
        refused("breath12;", 1, 0);
        refused("spot\ta;", 1, 4);
        refused("spot\u000ba;", 1, 4);
        refused("spot\u001fa;", 1, 4);
        refused("spot!a;", 1, 4);
        refused("spot a\r;", 1, 6);
        refused("spot a.", 1, 6);
        refused("spot a,", 1, 6);
        refused("spot \u00e9;", 1, 5);
        refused("spot a;\u0000", 1, 7);
        refused("spot a`;", 1, 6);
        refused("spot a{;", 1, 6);
        refused("breath 9/;", 1, 8);
        refused("breath 9:;", 1, 8);
        taken("spot abcdefg;", 1);
        taken("breath 012;", 1);
        taken("spot z;spot y;fold z y 9 laugh;", 3);
    }

    private static void tokensThatCannotCome() {
        refused("spot", 1, 4);
        refused("spot ", 1, 5);
        refused("spot a", 1, 6);
        refused("spot a;;", 1, 7);
        refused("a;", 1, 0);
        refused("inn;", 1, 0);
        refused("goes;", 1, 0);
        refused("12;", 1, 0);
        refused("spot a inn inn;", 1, 11);
        refused("spot a b;", 1, 7);
        refused("spot a <;", 1, 7);
        refused("spot 12;", 1, 5);
        refused("spot inn;", 1, 5);
        refused(TWO + "fold a b laugh;", 1, 23);
        refused(TWO + "fold a b 3 3;", 1, 25);
        refused(TWO + "fold a b 3 inn;", 1, 25);
        refused(TWO + "fold a b 3 breath;", 1, 25);
        refused(TWO + "fold a b 3 goes;", 1, 25);
        refused(TWO + "fold a b 3;", 1, 24);
        refused(TWO + "fold a b;", 1, 22);
        refused(TWO + "fold a;", 1, 20);
        refused(TWO + "walker w;", 1, 22);
        refused(TWO + "spot;", 1, 18);
        refused(TWO + "fold a b 3 a;", 1, 25);
        refused(TWO + "fold a b 3 laugh laugh;", 1, 31);
        refused(TWO + "fold a 3;", 1, 21);
        refused(TWO + "fold a fold;", 1, 21);
        refused(TWO + "thing a;", 3, 20);
        refused(TWO + "thing t;", 1, 21);
        refused(TWO + "thing spot a;", 1, 20);
        refused(TWO + "walker w a;", 1, 24);
        refused(TWO + "walker w 1 a;", 1, 23);
        refused("breath;", 1, 6);
        refused("breath a;", 1, 7);
        String[] taken = {"spot", "inn", "fold", "thing", "walker", "breath", "laugh", "worry", "frown", "goes",
            "learns", "tells", "rests", "cream", "slip", "mood", "hour", "or", "and", "not", "going", "housed", "lost",
            "at", "knows", "left", "tired", "pace", "number"};
        for (String word : taken) {
            refused("spot " + word + ";", 1, 5);
            refused(TWO + "thing " + word + " a;", 1, 20);
            refused(TWO + "walker " + word + " a 1;", 1, 21);
            if (!word.equals("inn")) {
                refused("spot a " + word + ";", 1, 7);
            }
        }
        taken("spot to;spot in;spot none;spot breaths;spot innn;", 5);
    }

    private static void numbersNotAsTold() {
        refused(TWO + "fold a b 0 laugh;", 2, 23);
        refused(TWO + "fold a b 10 laugh;", 2, 23);
        taken(TWO + "fold a b 1 laugh;", 3);
        refused(TWO + "walker w a 0;", 2, 25);
        refused(TWO + "walker w a 6;", 2, 25);
        taken(TWO + "walker w a 1;walker v b 5;", 4);
        refused("breath 1;", 2, 7);
        refused("breath 41;", 2, 7);
        refused("breath 999;", 2, 7);
    }

    private static void namesNotAsTold() {
        refused("spot a;spot a;", 3, 12);
        refused("spot a;thing a a;", 3, 13);
        refused("spot a;walker a a 1;", 3, 14);
        refused("spot a;thing t a;spot t;", 3, 22);
        refused("spot a;thing t a;walker t a 1;", 3, 24);
        refused("spot a;walker t a 1;thing t a;", 3, 26);
        refused("spot a;thing t b;spot b;", 3, 15);
        refused("spot a;thing t t;", 3, 15);
        refused("spot a;thing t a;walker w t 1;", 3, 26);
        refused("spot a;walker w w 1;", 3, 16);
        refused("fold a b 1 laugh;", 3, 5);
        refused("spot a;fold a b 1 laugh;", 3, 14);
        refused("spot a;thing t a;fold a t 1 laugh;", 3, 24);
        refused("spot a;fold a a 1 laugh;", 3, 14);
        refused(TWO + "fold a b 1 laugh;fold a b 2 worry;", 3, 38);
        refused(TWO + "fold a b 1 laugh;fold b a 2 worry;", 3, 38);
        taken(TWO + "spot c;fold a b 1 laugh;fold b c 2 worry;fold c a 2 worry;", 6);
        refused("breath 9;breath 9;", 3, 9);
        refused("breath 12;spot a;breath;", 3, 17);
        refused("spot a;walker w b;", 3, 16);
    }

    private static void tooMany() {
        String eight = "spot a;spot b;spot c;spot d;spot e;spot f;spot g;spot h;";
        taken(eight, 8);
        refused(eight + "spot i;", 4, 56);
        refused(eight + "spot a;", 4, 56);
        refused(eight + "\n spot", 4, 58);
        StringBuilder twelve = new StringBuilder(eight);
        String pairs = "abacadaeafagahbcbdbebfbg";
        for (int i = 0; i < 24; i += 2) {
            twelve.append("fold ").append(pairs.charAt(i)).append(' ').append(pairs.charAt(i + 1)).append(" 1 laugh;");
        }
        taken(twelve.toString(), 20);
        refused(twelve + "fold c d 1 laugh;", 4, twelve.length());
        refused(twelve + "fold 7", 4, twelve.length());
        String six = "spot a;thing b a;thing c a;thing d a;thing e a;thing f a;thing g a;";
        taken(six, 7);
        refused(six + "thing h a;", 4, six.length());
        String five = "spot a;walker b a 1;walker c a 1;walker d a 1;walker e a 1;walker f a 1;";
        taken(five, 6);
        refused(five + "walker g a 1;", 4, five.length());
    }

    private static void mostBytes() {
        taken("spot a;" + Texts.times(" ", 893), 1);
        refused("spot a;" + Texts.times(" ", 894), 1, 900);
        refused(Texts.times(" ", 940), 1, 900);
        refused(Texts.times(" ", 898) + "spot a;", 1, 900);
        refused(Texts.times(" ", 898) + "spots a;", 1, 898);
        refused(Texts.times(" ", 898) + "spotspotspot", 1, 898);
        refused(Texts.times(" ", 896) + "spot a;", 1, 900);
        refused(Texts.times(" ", 899) + "spot", 1, 900);
        refused(Texts.times(" ", 893) + "breath 41;", 1, 900);
        refused(Texts.times(" ", 892) + "breath 41;", 2, 899);
        refused(Texts.times(" ", 890) + "breath 41;", 2, 897);
        refused("breath 41;" + Texts.times(" ", 900), 2, 7);
        refused("breath 14" + Texts.times(" ", 900), 1, 900);
        refused("spot a;" + Texts.times(" ", 887) + "spot a;", 3, 899);
        refused("spot a;" + Texts.times(" ", 888) + "spot a;", 1, 900);
    }

    private static void leastOfOneToken() {
        // a NAME that is a WORD of the texts is 1, not 3; a NUMBER where a NAME is due is 1, not 2
        refused("spot a;fold a laugh 1 laugh;", 1, 14);
        refused("spot a;walker w 99 1;", 1, 16);
        // the first along the text, not the least of all
        refused("spot a;spot a spot", 3, 12);
        refused("breath 99 99", 2, 7);
    }

    private static void fault() {
        FoldRoads x = new FoldRoads();
        Texts.valley(x, "breath 1;");
        CHECK.due("of a valley", x.fault(), 2);
        x.feed(0, 0, 0, 0, 0);
        x.came();
        CHECK.due("came() leaves it", x.fault(), 2);
        x.book(2);
        CHECK.due("book(2) leaves it", x.fault(), 2);
        x.book(0);
        CHECK.due("a book without one", x.fault(), 0);
        Texts.sentence(x, "at a");
        CHECK.due("of a sentence", x.fault(), 3);
        x.valley();
        CHECK.due("a valley without one", x.fault(), 0);
        Texts.book(x, "cream 12;", 1);
        CHECK.due("of a book", x.fault(), 2);
        Texts.sentence(x, "going");
        CHECK.due("a sentence without one", x.fault(), 0);
    }

    private static void count() {
        FoldRoads x = Texts.of(Texts.FACE);
        Texts.put(x, "abc");
        int[] want = {5, 4, 2, 2, 7, 3};
        for (int i = 0; i < 6; i++) {
            CHECK.due("count " + i, x.count(i), want[i]);
        }
        CHECK.due("count 6", x.count(6), -1);
        CHECK.due("count -1", x.count(-1), -1);
        CHECK.due("count of the least int", x.count(Integer.MIN_VALUE), -1);
    }
}
