import java.util.NoSuchElementException;

/** Short ways to put texts on the tape and to ask what an object is. */
final class Texts {
    static final int THROWS = Integer.MIN_VALUE;

    /** mouth(inn) -4 laugh- cheek -6 worry- brow -9 frown- mouth, brow -3 laugh- eye(inn); chin is alone. */
    static final String FACE = "spot mouth inn;spot cheek;spot brow;spot eye inn;spot chin;"
            + "fold mouth cheek 4 laugh;fold cheek brow 6 worry;fold mouth brow 9 frown;"
            + "fold brow eye 3 laugh;thing recipe brow;thing war cheek;"
            + "walker ann mouth 2;walker bob eye 1;breath 7;";

    private Texts() {
    }

    /** The tape holds this text behind what it has; letters came behind it, too, that end() cut off. */
    static void put(FoldRoads x, String text) {
        int before = x.count(5);
        for (int i = 0; i < text.length(); i += 20) {
            int[] five = new int[5];
            for (int k = 0; k < 20; k++) {
                int c = i + k < text.length() ? text.charAt(i + k) : 'z';
                five[k / 4] = five[k / 4] << 8 | c;
            }
            x.feed(five[0], five[1], five[2], five[3], five[4]);
        }
        x.end(before + text.length());
    }

    static void putBytes(FoldRoads x, int... bytes) {
        StringBuilder text = new StringBuilder();
        for (int b : bytes) {
            text.append((char) b);
        }
        put(x, text.toString());
    }

    static int valley(FoldRoads x, String text) {
        put(x, text);
        return x.valley();
    }

    static int book(FoldRoads x, String text, int lives) {
        put(x, text);
        return x.book(lives);
    }

    static int sentence(FoldRoads x, String text) {
        put(x, text);
        return x.sentence();
    }

    static int came(FoldRoads x, int... bytes) {
        putBytes(x, bytes);
        return x.came();
    }

    /** A new object with this VALLEY. */
    static FoldRoads of(String text) {
        FoldRoads x = new FoldRoads();
        int lines = valley(x, text);
        if (lines < 0) {
            throw new IllegalArgumentException("not a valley: " + lines + " " + text);
        }
        return x;
    }

    static int walker(FoldRoads x, int w, int what) {
        try {
            return x.walker(w, what);
        } catch (NoSuchElementException e) {
            return THROWS;
        }
    }

    static int mean(FoldRoads x, int s, int what) {
        try {
            return x.mean(s, what);
        } catch (NoSuchElementException e) {
            return THROWS;
        }
    }

    static String tag(FoldRoads x, int w) {
        int length = x.tag(w);
        StringBuilder text = new StringBuilder();
        for (int i = 0; i < length; i++) {
            text.append((char) x.byteAt(i));
        }
        return text.toString();
    }

    static String times(String text, int n) {
        StringBuilder all = new StringBuilder();
        for (int i = 0; i < n; i++) {
            all.append(text);
        }
        return all.toString();
    }

    /** All that deeds and hours change, in fewer calls. */
    static String brief(FoldRoads x) {
        StringBuilder text = new StringBuilder();
        text.append(x.now(0)).append(' ').append(x.now(1)).append(' ').append(x.now(7)).append(' ');
        for (int w = 0, many = x.count(3); w < many; w++) {
            text.append(x.walker(w, 0)).append(' ');
            for (int i = 2; i < 6; i++) {
                text.append(x.walker(w, i)).append(' ');
            }
        }
        for (int f = 0, many = x.count(1); f < many; f++) {
            text.append(x.fold(f, 2)).append(' ').append(x.fold(f, 4)).append(' ');
        }
        return text.toString();
    }

    /** Everything that the face tells of what is so, for 'changes nothing'. */
    static String all(FoldRoads x) {
        StringBuilder text = new StringBuilder();
        for (int i = 0; i < 6; i++) {
            text.append(x.count(i)).append(' ');
        }
        for (int i = 0; i < 8; i++) {
            text.append(x.now(i)).append(' ');
        }
        for (int w = 0, many = x.count(3); w < many; w++) {
            for (int i = 0; i < 7; i++) {
                text.append(x.walker(w, i)).append(' ');
            }
        }
        for (int f = 0, many = x.count(1); f < many; f++) {
            for (int i = 0; i < 6; i++) {
                text.append(x.fold(f, i)).append(' ');
            }
        }
        for (int s = 0, many = x.count(0); s < many; s++) {
            for (int i = 0; i < 4; i++) {
                text.append(x.spot(s, i)).append(' ');
            }
        }
        return text.toString();
    }
}
