import java.lang.reflect.InvocationTargetException;
import java.lang.reflect.Method;
import java.util.HashMap;
import java.util.Map;
import java.util.Random;

/**
 * Runs of 512 calls drawn by a seed, each asked of the program and of the Model. With an argument: how many
 * runs; with a second one: the first seed.
 */
public final class RandomRunsTest {
    private static final int CALLS = 512;
    private static final String[] WORDS = {"spot", "inn", "fold", "thing", "walker", "breath", "laugh", "worry",
        "frown", "goes", "learns", "tells", "rests", "cream", "slip", "mood", "hour", "or", "and", "not", "going",
        "housed", "lost", "at", "knows", "left", "tired", "pace", "number", ";", "<", "=", ">", "(", ")", ".", "7",
        "0", "999", "1000", "x1", "toolongx", "A", "nobody"};

    private final Random random;
    private final FoldRoads program = new FoldRoads();
    private final Model model = new Model();
    private final Map<String, Method> ofProgram = new HashMap<>();
    private final Map<String, Method> ofModel = new HashMap<>();
    private final StringBuilder story = new StringBuilder();
    private int calls;
    private boolean differs;
    private int spots;
    private int folds;
    private int things;
    private int walkers;

    private RandomRunsTest(long seed) {
        random = new Random(seed);
        for (Method m : FoldRoads.class.getDeclaredMethods()) {
            if (java.lang.reflect.Modifier.isPublic(m.getModifiers())) {
                ofProgram.put(m.getName(), m);
            }
        }
        for (Method m : Model.class.getDeclaredMethods()) {
            if (java.lang.reflect.Modifier.isPublic(m.getModifiers())) {
                ofModel.put(m.getName(), m);
            }
        }
    }

    private static String answer(Method m, Object of, Object... args) throws IllegalAccessException {
        try {
            return String.valueOf(m.invoke(of, args));
        } catch (InvocationTargetException e) {
            return "throws " + e.getCause().getClass().getSimpleName();
        }
    }

    private void call(String name, Object... args) throws IllegalAccessException {
        if (differs || calls >= CALLS) {
            return;
        }
        calls++;
        String got = answer(ofProgram.get(name), program, args);
        String want = answer(ofModel.get(name), model, args);
        story.append(name).append(java.util.Arrays.toString(args)).append(" -> ").append(got).append('\n');
        if (!got.equals(want)) {
            differs = true;
            story.append("  but the model answers ").append(want).append('\n');
        }
    }

    private int below(int n) {
        return random.nextInt(n);
    }

    private boolean oneIn(int n) {
        return below(n) == 0;
    }

    /** A number that there is, most of the time. */
    private int number(int many) {
        return oneIn(12) ? below(many + 4) - 2 : oneIn(200) ? random.nextInt() : below(Math.max(1, many));
    }

    private void put(String text) throws IllegalAccessException {
        story.append("text: ").append(text.replace("\n", "\\n")).append('\n');
        for (int i = 0; i < text.length(); i += 20) {
            int[] five = new int[5];
            for (int k = 0; k < 20; k++) {
                int c = i + k < text.length() ? text.charAt(i + k) : below(256);
                five[k / 4] = five[k / 4] << 8 | c;
            }
            call("feed", five[0], five[1], five[2], five[3], five[4]);
        }
        if (text.length() % 20 != 0 && !oneIn(60)) {
            call("end", text.length());
        }
        if (oneIn(10)) {
            call("count", 5);
        }
    }

    private String blank() {
        return oneIn(4) ? Texts.times(oneIn(2) ? " " : "\n", 1 + below(3)) : " ";
    }

    /** One TOKEN changed, put in, or taken out; or bytes put in anywhere; or blanks up to the most bytes. */
    private String spoil(String text, int most) {
        int kind = below(9);
        String[] parts = text.split(" ");
        StringBuilder all = new StringBuilder();
        int at = below(parts.length);
        for (int i = 0; i < parts.length; i++) {
            if (i == at && kind < 3) {
                all.append(WORDS[below(WORDS.length)]).append(' ');
            }
            if (i == at && kind == 3) {
                continue;
            }
            all.append(i == at && kind > 3 && kind < 6 ? another(parts[i]) : parts[i]).append(' ');
        }
        if (kind == 6) {
            all.insert(below(all.length()), (char) (oneIn(3) ? below(256) : 33 + below(94)));
        } else if (kind == 7) {
            all.setLength(below(all.length()));
        } else if (kind == 8) {
            int more = most - all.length() + below(30) - 10;
            all.insert(oneIn(2) ? all.length() : below(all.length()), Texts.times(" ", Math.max(0, more)));
        }
        if (all.length() > 940) {
            all.setLength(940);
        }
        return all.toString();
    }

    private String another(String token) {
        if (oneIn(4)) {
            return WORDS[below(WORDS.length)];
        }
        if (token.matches("[0-9]+")) {
            return String.valueOf(below(oneIn(2) ? 14 : 70));
        }
        return "" + "stw".charAt(below(3)) + letter(below(9));
    }

    private String valleyText() {
        StringBuilder all = new StringBuilder();
        boolean over = oneIn(8);
        spots = over ? 7 + below(3) : 1 + below(oneIn(2) ? 3 : 8);
        folds = over ? 11 + below(3) : below(Math.min(13, spots * (spots - 1) / 2 + 1));
        things = over ? 5 + below(3) : below(7);
        walkers = over ? 4 + below(3) : 1 + below(5);
        int mostDeep = oneIn(2) ? 9 : 3;
        for (int s = 0; s < spots; s++) {
            all.append("spot s").append(letter(s)).append(oneIn(4) ? " inn ;" : " ;").append(blank());
        }
        boolean[][] joined = new boolean[10][10];
        for (int f = 0; f < folds; f++) {
            int a = below(spots);
            int b = below(spots);
            for (int more = 0; more < 200 && (a == b || joined[a][b]); more++) {
                a = below(spots);
                b = below(spots);
            }
            if ((a == b || joined[a][b]) && !oneIn(20)) {
                folds = f;
                break;
            }
            joined[a][b] = true;
            joined[b][a] = true;
            all.append("fold s").append(letter(a)).append(" s").append(letter(b)).append(' ');
            all.append(1 + below(mostDeep)).append(' ').append(WORDS[6 + below(3)]).append(" ;").append(blank());
        }
        for (int t = 0; t < things; t++) {
            all.append("thing t").append(letter(t)).append(" s").append(letter(below(spots))).append(" ;")
                    .append(blank());
        }
        if (!oneIn(3)) {
            all.append("breath ").append(oneIn(3) ? 2 + below(39) : 6 + below(20)).append(" ; ");
        }
        for (int w = 0; w < walkers; w++) {
            all.append("walker w").append(letter(w)).append(" s").append(letter(below(spots))).append(' ')
                    .append(1 + below(oneIn(2) ? 5 : 2)).append(" ;").append(blank());
        }
        return all.toString();
    }

    private static char letter(int n) {
        return (char) ('a' + n);
    }

    /** As many LINES as a BOOK may have, more or less, in few bytes. */
    private String longBookText() {
        StringBuilder all = new StringBuilder();
        int lines = 38 + below(5);
        for (int i = 0; i < lines; i++) {
            all.append(oneIn(40) ? "wa rests;" : oneIn(40) ? "mood " + WORDS[6 + below(3)] + ";" : "hour 1;");
        }
        return all.toString();
    }

    private String bookText() {
        if (oneIn(5)) {
            return longBookText();
        }
        StringBuilder all = new StringBuilder();
        int lines = oneIn(5) ? 36 + below(8) : below(12);
        for (int i = 0; i < lines; i++) {
            int kind = below(12);
            if (kind < 3) {
                all.append("mood ").append(WORDS[6 + below(3)]);
            } else if (kind < 6) {
                all.append("hour ").append(1 + below(oneIn(10) ? 61 : 5));
            } else if (kind == 6) {
                all.append("cream ").append(number(folds));
            } else if (kind == 7) {
                all.append("slip ").append(number(folds)).append(' ').append(1 + below(10));
            } else {
                all.append('w').append(letter(below(Math.max(1, walkers)))).append(' ');
                if (kind < 10) {
                    all.append("goes ").append(number(folds));
                } else if (kind == 10) {
                    all.append("learns t").append(letter(below(Math.max(1, things))));
                } else {
                    all.append(oneIn(2) ? "rests" : "tells w" + letter(below(Math.max(1, walkers))));
                }
            }
            all.append(" ; ");
        }
        return all.toString();
    }

    private String condition(int depth) {
        int kind = below(depth > 9 ? 10 : 16);
        String sign = " " + "<=>".charAt(below(3)) + " ";
        switch (kind) {
            case 0: return "going";
            case 1: return "housed";
            case 2: return "lost";
            case 3: return "at s" + letter(below(Math.max(1, spots)));
            case 4: return "knows t" + letter(below(Math.max(1, things)));
            case 5: return "left" + sign + below(4);
            case 6: return "tired" + sign + below(8);
            case 7: return "pace" + sign + below(5);
            case 8: return "number" + sign + below(5);
            case 9: return "left = 0";
            case 10: return "not " + condition(depth + 1);
            case 11: return "( " + condition(depth + 1) + " )";
            case 12:
            case 13: return condition(depth + 1) + " and " + condition(depth + 1);
            default: return condition(depth + 1) + " or " + condition(depth + 1);
        }
    }

    /** About as many ONES, within one another or not, as a SENTENCE may have. */
    private String longCondition() {
        StringBuilder all = new StringBuilder();
        if (oneIn(2)) {
            int deep = 6 + below(4);
            int open = 0;
            for (int i = 0; i < deep; i++) {
                boolean bracket = oneIn(2);
                open += bracket ? 1 : 0;
                all.append(bracket ? "( " : "not ");
            }
            return all.append("going ").append(Texts.times(") ", open)).toString();
        }
        int many = 17 + below(6);
        for (int i = 0; i < many; i++) {
            all.append(i == 0 ? "" : oneIn(2) ? " or " : " and ").append(oneIn(3) ? "( at sa )" : "lost");
        }
        return all.toString();
    }

    private void text(String text, int most) throws IllegalAccessException {
        put(oneIn(4) ? spoil(text, most) : text);
    }

    private void step() throws IllegalAccessException {
        int kind = below(100);
        if (kind < 2 || calls == 0 && !oneIn(10)) {
            text(valleyText(), 900);
            call("valley");
            call("fault");
            lookAround();
        } else if (kind < 5) {
            text(bookText(), 400);
            call("book", oneIn(30) ? below(5) - 2 : below(2));
            call("fault");
            for (int i = 0; i < 4; i++) {
                call("told", oneIn(20) ? below(9) - 2 : i);
            }
        } else if (kind < 9) {
            text(oneIn(5) ? longCondition() : condition(0), 200);
            call("sentence");
            call("fault");
            call("said", -1);
        } else if (kind < 13) {
            askOrigins();
        } else if (kind < 16) {
            call(oneIn(2) ? "image" : "restore", number(2));
            lookAround();
        } else if (kind < 40) {
            deed();
        } else {
            question();
        }
    }

    private void lookAround() {
        spots = model.count(0);
        folds = model.count(1);
        things = model.count(2);
        walkers = model.count(3);
    }

    /** A deed that can well be done, as a walker stands now. */
    private void likelyDeed() throws IllegalAccessException {
        if (walkers == 0) {
            return;
        }
        int w = below(walkers);
        int s = model.walker(w, 0);
        int roads = model.spot(s, 2);
        int others = model.spot(s, 3);
        int f = below(12);
        for (int i = 0; i < 12 && (roads >> f & 1) == 0; i++) {
            f = (f + 1) % 12;
        }
        int x = below(5);
        for (int i = 0; i < 5 && ((others >> x & 1) == 0 || x == w); i++) {
            x = (x + 1) % 5;
        }
        switch (below(8)) {
            case 0: call("rest", w); break;
            case 1:
            case 2: call("tell", w, x); break;
            case 3: call("slip", f, 1 + below(8)); break;
            case 4: call("learn", w, Math.min(5, Integer.numberOfTrailingZeros(model.spot(s, 1)))); break;
            default: call("walk", w, f); break;
        }
    }

    private void askOrigins() throws IllegalAccessException {
        StringBuilder pairs = new StringBuilder();
        int many = oneIn(10) ? below(8) : 1 + below(2);
        for (int i = 0; i < many; i++) {
            pairs.append((char) (number(spots) & 255)).append((char) below(oneIn(10) ? 256 : 9));
        }
        if (oneIn(20)) {
            pairs.append((char) 0);
        }
        put(pairs.toString());
        call("came");
        call("ask");
    }

    private void deed() throws IllegalAccessException {
        switch (below(22)) {
            case 0:
            case 1:
            case 2: call("walk", number(walkers), number(folds)); break;
            case 3:
            case 4: call("learn", number(walkers), number(things)); break;
            case 5: call("tell", number(walkers), number(walkers)); break;
            case 6: call("rest", number(walkers)); break;
            case 7: call("cream", number(folds)); break;
            case 8: call("slip", number(folds), number(10)); break;
            case 9: call("mood", number(3)); break;
            case 10:
                for (int i = 0; i < 6 && oneIn(2); i++) {
                    call("hours", 60 - below(2));
                }
                break;
            case 11: call("hours", oneIn(10) ? number(62) : 1 + below(5)); break;
            case 13:
            case 14:
            case 15:
            case 16:
            case 17:
            case 18:
            case 19: likelyDeed(); break;
            case 12: call("drawn", oneIn(10) ? number(62) : 1 + below(8), random.nextInt()); break;
            default: call("undo"); break;
        }
    }

    private void question() throws IllegalAccessException {
        switch (below(22)) {
            case 0: call("walker", number(walkers), number(7)); break;
            case 1: call("fold", number(folds), number(6)); break;
            case 2: call("spot", number(spots), number(4)); break;
            case 3:
            case 4: call("now", number(8)); break;
            case 5: call("takes", number(walkers), number(folds)); break;
            case 6:
            case 7: call("way", number(walkers), number(spots)); break;
            case 8: call("wayAt", number(4)); break;
            case 9: call("reaches", number(walkers)); break;
            case 10: call("gather", number(walkers)); break;
            case 11: call("gatherAt", number(6)); break;
            case 12: call("meet", number(walkers), number(walkers)); break;
            case 13: call("meetAt"); break;
            case 14: call("inns", number(oneIn(4) ? 100 : 12)); break;
            case 15: call("innsAt"); break;
            case 16: call("mean", number(spots), number(2)); break;
            case 17: call("tag", number(walkers)); break;
            case 18: call("byteAt", number(24)); break;
            case 19: call("odds", number(walkers), number(31), random.nextInt()); break;
            case 20: call("said", number(4)); break;
            default: call("count", number(6)); break;
        }
    }

    private boolean differs() throws IllegalAccessException {
        while (calls < CALLS && !differs) {
            step();
        }
        return differs;
    }

    public static void main(String[] args) throws IllegalAccessException {
        int runs = args.length > 0 ? Integer.parseInt(args[0]) : 1000;
        int first = args.length > 1 ? Integer.parseInt(args[1]) : 1;
        Check check = new Check("RandomRunsTest");
        for (int seed = first; seed < first + runs; seed++) {
            RandomRunsTest run = new RandomRunsTest(seed);
            boolean differs = run.differs();
            check.due("run of seed " + seed, differs, false);
            if (differs) {
                System.out.println(run.story);
                break;
            }
        }
        check.finish();
    }
}
