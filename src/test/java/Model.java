import java.util.ArrayDeque;
import java.util.ArrayList;
import java.util.Arrays;
import java.util.Deque;
import java.util.HashMap;
import java.util.HashSet;
import java.util.LinkedHashMap;
import java.util.List;
import java.util.Map;
import java.util.NoSuchElementException;
import java.util.Set;
import java.util.TreeMap;

/**
 * The document once more, told in another way: texts read by descent with exceptions, roads by trying every
 * path, orders by trying every one. It shares no line with the program; RandomRunsTest compares the two.
 */
final class Model {
    private static final Set<String> TAKEN = new HashSet<>(Arrays.asList("spot", "inn", "fold", "thing", "walker",
            "breath", "laugh", "worry", "frown", "goes", "learns", "tells", "rests", "cream", "slip", "mood", "hour",
            "or", "and", "not", "going", "housed", "lost", "at", "knows", "left", "tired", "pace", "number"));
    private static final List<String> KINDS = Arrays.asList("laugh", "worry", "frown");

    private static final class Fault extends RuntimeException {
        private static final long serialVersionUID = 1L;
        final int kind;
        final int place;

        Fault(int kind, int place) {
            super(null, null, false, false);
            this.kind = kind;
            this.place = place;
        }
    }

    private static final class Tok {
        String text = "";
        int place;
        boolean bad;
        boolean end;

        boolean isWord() {
            return !bad && !end && text.matches("[a-z]{1,7}");
        }

        boolean isNumber() {
            return !bad && !end && text.matches("[0-9]{1,3}");
        }
    }

    private static List<Tok> split(String text, int most) {
        List<Tok> all = new ArrayList<>();
        int i = 0;
        while (true) {
            while (i < text.length() && (text.charAt(i) == ' ' || text.charAt(i) == '\n')) {
                i++;
            }
            Tok t = new Tok();
            all.add(t);
            t.place = i;
            if (text.length() > most && i >= most) {
                t.place = most;
                t.bad = true;
                return all;
            }
            if (i == text.length()) {
                t.end = true;
                return all;
            }
            int j = i;
            while (j < text.length() && "abcdefghijklmnopqrstuvwxyz0123456789".indexOf(text.charAt(j)) >= 0) {
                j++;
            }
            if (j > i) {
                t.text = text.substring(i, j);
                t.bad = !t.isWord() && !t.isNumber();
            } else {
                j = i + 1;
                t.text = text.substring(i, j);
                t.bad = ";<=>()".indexOf(t.text) < 0;
            }
            if (t.bad) {
                return all;
            }
            i = j;
        }
    }

    private static final class Reader {
        final List<Tok> toks;
        int at;

        Reader(String text, int most) {
            toks = split(text, most);
        }

        Tok look() {
            return toks.get(Math.min(at, toks.size() - 1));
        }

        boolean ended() {
            return look().end;
        }

        Fault fault(int kind) {
            return new Fault(kind, look().place);
        }

        boolean sees(String s) {
            return !look().bad && !look().end && look().text.equals(s);
        }

        boolean eats(String s) {
            if (sees(s)) {
                at++;
                return true;
            }
            return false;
        }

        void must(String s) {
            if (!eats(s)) {
                throw fault(1);
            }
        }

        int number(int least, int most) {
            if (!look().isNumber()) {
                throw fault(1);
            }
            int n = Integer.parseInt(look().text);
            if (n < least || n > most) {
                throw fault(2);
            }
            at++;
            return n;
        }

        String freeWord() {
            if (!look().isWord() || TAKEN.contains(look().text)) {
                throw fault(1);
            }
            return look().text;
        }

        int known(Map<String, Integer> sort) {
            String word = freeWord();
            if (!sort.containsKey(word)) {
                throw fault(3);
            }
            at++;
            return sort.get(word);
        }

        int kind() {
            int k = look().isWord() ? KINDS.indexOf(look().text) : -1;
            if (k < 0) {
                throw fault(1);
            }
            at++;
            return k;
        }
    }

    private static final class Road {
        int a;
        int b;
        int depth;
        int kind;
        int slipped;

        Road copy() {
            Road r = new Road();
            r.a = a;
            r.b = b;
            r.depth = depth;
            r.kind = kind;
            r.slipped = slipped;
            return r;
        }
    }

    private static final class Man {
        int spot;
        int pace;
        int fold = -1;
        int left;
        int tired;
        Set<Integer> knows = new HashSet<>();

        Man copy() {
            Man m = new Man();
            m.spot = spot;
            m.pace = pace;
            m.fold = fold;
            m.left = left;
            m.tired = tired;
            m.knows = new HashSet<>(knows);
            return m;
        }
    }

    private interface Saying {
        boolean of(Land land, int w);
    }

    private static final class Land {
        Map<String, Integer> spots = new LinkedHashMap<>();
        Map<String, Integer> things = new LinkedHashMap<>();
        Map<String, Integer> men = new LinkedHashMap<>();
        List<Boolean> inn = new ArrayList<>();
        List<Integer> thingSpot = new ArrayList<>();
        List<Road> roads = new ArrayList<>();
        List<Man> walkers = new ArrayList<>();
        int breath = 12;
        int hour;
        int mood = -1;
        int gone;
        Saying saying;
        int ones;

        Land copy() {
            Land l = new Land();
            l.spots = spots;
            l.things = things;
            l.men = men;
            l.inn = inn;
            l.thingSpot = thingSpot;
            for (Road r : roads) {
                l.roads.add(r.copy());
            }
            for (Man m : walkers) {
                l.walkers.add(m.copy());
            }
            l.breath = breath;
            l.hour = hour;
            l.mood = mood;
            l.gone = gone;
            l.saying = saying;
            l.ones = ones;
            return l;
        }

        String nameOf(Map<String, Integer> sort, int n) {
            for (Map.Entry<String, Integer> e : sort.entrySet()) {
                if (e.getValue() == n) {
                    return e.getKey();
                }
            }
            throw new IllegalStateException();
        }

        int deep(int f) {
            Road r = roads.get(f);
            return r.kind == mood ? Math.max(1, r.depth - 1) : r.depth;
        }

        int time(int f, int pace) {
            int t = 0;
            while (t * pace < deep(f)) {
                t++;
            }
            return t;
        }

        int over(int f, int s) {
            Road r = roads.get(f);
            return r.a == s ? r.b : r.b == s ? r.a : -1;
        }

        boolean going(int w) {
            return walkers.get(w).fold >= 0;
        }

        // every path without a spot twice: hours, then the folds
        void paths(int here, int pace, Set<Integer> seen, int hours, List<Integer> folds,
                Map<Integer, List<Integer>> best, Map<Integer, Integer> least) {
            boolean better = !least.containsKey(here) || hours < least.get(here)
                    || hours == least.get(here) && before(folds, best.get(here));
            if (better) {
                least.put(here, hours);
                best.put(here, new ArrayList<>(folds));
            }
            for (int f = 0; f < roads.size(); f++) {
                int to = over(f, here);
                if (to >= 0 && roads.get(f).slipped == 0 && !seen.contains(to)) {
                    seen.add(to);
                    folds.add(f);
                    paths(to, pace, seen, hours + time(f, pace), folds, best, least);
                    folds.remove(folds.size() - 1);
                    seen.remove(to);
                }
            }
        }

        static boolean before(List<Integer> a, List<Integer> b) {
            if (a.size() != b.size()) {
                return a.size() < b.size();
            }
            for (int i = 0; i < a.size(); i++) {
                if (!a.get(i).equals(b.get(i))) {
                    return a.get(i) < b.get(i);
                }
            }
            return false;
        }

        Map<Integer, Integer> far(int from, int pace) {
            Map<Integer, Integer> least = new HashMap<>();
            paths(from, pace, new HashSet<>(Arrays.asList(from)), 0, new ArrayList<>(), new HashMap<>(), least);
            return least;
        }

        int reaches(int w) {
            Man m = walkers.get(w);
            int bits = 0;
            for (Map.Entry<Integer, Integer> e : far(m.spot, m.pace).entrySet()) {
                if (m.tired + e.getValue() <= breath) {
                    bits |= 1 << e.getKey();
                }
            }
            return bits;
        }

        boolean lost(int w) {
            if (going(w)) {
                return false;
            }
            int r = reaches(w);
            for (int s = 0; s < inn.size(); s++) {
                if ((r & 1 << s) != 0 && inn.get(s)) {
                    return false;
                }
            }
            return true;
        }

        int go(int w, int f) {
            Man m = walkers.get(w);
            if (going(w)) {
                return 1;
            }
            int to = over(f, m.spot);
            if (to < 0) {
                return 2;
            }
            if (roads.get(f).slipped > 0) {
                return 3;
            }
            if (m.tired + time(f, m.pace) > breath) {
                return 4;
            }
            m.fold = f;
            m.left = time(f, m.pace);
            m.spot = to;
            return 0;
        }

        int learn(int w, int t) {
            Man m = walkers.get(w);
            if (going(w)) {
                return 1;
            }
            if (thingSpot.get(t) != m.spot) {
                return 2;
            }
            return m.knows.add(t) ? 0 : 3;
        }

        int tell(int w, int x) {
            if (w == x || going(w) || going(x) || walkers.get(w).spot != walkers.get(x).spot) {
                return 1;
            }
            return walkers.get(x).knows.addAll(walkers.get(w).knows) ? 0 : 2;
        }

        int rest(int w) {
            Man m = walkers.get(w);
            if (going(w)) {
                return 1;
            }
            if (!inn.get(m.spot)) {
                return 2;
            }
            if (m.tired == 0) {
                return 3;
            }
            m.tired = 0;
            return 0;
        }

        int cream(int f) {
            if (roads.get(f).depth == 1) {
                return 1;
            }
            roads.get(f).depth = 1;
            return 0;
        }

        int slip(int f, int n) {
            if (roads.get(f).slipped != 0) {
                return 1;
            }
            for (Man m : walkers) {
                if (m.fold == f) {
                    return 2;
                }
            }
            roads.get(f).slipped = n;
            return 0;
        }

        int setMood(int k) {
            if (mood == k) {
                return 1;
            }
            mood = k;
            return 0;
        }

        boolean pass() {
            if (hour == 400) {
                return false;
            }
            for (Man m : walkers) {
                if (m.fold >= 0) {
                    m.tired++;
                    m.left--;
                    if (m.left == 0) {
                        m.fold = -1;
                        gone++;
                    }
                }
            }
            for (Road r : roads) {
                r.slipped = Math.max(0, r.slipped - 1);
            }
            hour++;
            return true;
        }

        int drawn(int n, int seed) {
            int[] x = {seed};
            int went = 0;
            for (int i = 0; i < n && hour < 400; i++) {
                for (int w = 0; w < walkers.size(); w++) {
                    if (going(w)) {
                        continue;
                    }
                    int d = draw(x, 4);
                    if (d < 2 && roads.size() > 0) {
                        go(w, draw(x, roads.size()));
                    } else if (d == 2 && things.size() > 0) {
                        learn(w, draw(x, things.size()));
                    } else if (d == 3) {
                        rest(w);
                    }
                }
                int k = draw(x, 20);
                if (k < 3) {
                    setMood(k);
                }
                pass();
                went++;
            }
            return went;
        }

        static int draw(int[] x, int n) {
            x[0] = (int) (x[0] * 1103515245L + 12345L);
            return (int) (((x[0] & 0xffffffffL) >> 8) % n);
        }

        int known() {
            int bits = 0;
            for (Man m : walkers) {
                for (int t : m.knows) {
                    bits |= 1 << t;
                }
            }
            return bits;
        }
    }

    private StringBuilder tape = new StringBuilder();
    private Land land = new Land();
    private final Land[] images = new Land[2];
    private final Deque<Land> past = new ArrayDeque<>();
    private int fault;
    private List<Integer> way = new ArrayList<>();
    private List<Integer> order = new ArrayList<>();
    private int meetAt = -1;
    private int innsAt = -1;
    private int ask = -1;
    private String tag = "";
    private int[] told;

    public int feed(int a, int b, int c, int d, int e) {
        if (tape.length() > 920) {
            return -1;
        }
        for (int x : new int[] {a, b, c, d, e}) {
            tape.append((char) (x >> 24 & 255)).append((char) (x >> 16 & 255));
            tape.append((char) (x >> 8 & 255)).append((char) (x & 255));
        }
        return tape.length();
    }

    public boolean end(int n) {
        if (n < 0 || n > tape.length()) {
            return false;
        }
        tape.setLength(n);
        return true;
    }

    private String takeTape() {
        String text = tape.toString();
        tape = new StringBuilder();
        return text;
    }

    public int valley() {
        String text = takeTape();
        fault = 0;
        try {
            Land l = new Land();
            int lines = readValley(new Reader(text, 900), l);
            land = l;
            past.clear();
            return lines;
        } catch (Fault f) {
            fault = f.kind;
            return -1 - f.place;
        }
    }

    private static int readValley(Reader r, Land l) {
        int lines = 0;
        boolean breath = false;
        while (!r.ended()) {
            if (r.sees("spot")) {
                some(r, l.spots.size(), 8);
                name(r, l, l.spots);
                l.inn.add(r.eats("inn"));
            } else if (r.sees("fold")) {
                some(r, l.roads.size(), 12);
                Road f = new Road();
                f.a = r.known(l.spots);
                f.b = r.known(l.spots);
                for (Road o : l.roads) {
                    if (Set.of(o.a, o.b).contains(f.a) && Set.of(o.a, o.b).contains(f.b)) {
                        r.at--;
                        throw r.fault(3);
                    }
                }
                if (f.a == f.b) {
                    r.at--;
                    throw r.fault(3);
                }
                f.depth = r.number(1, 9);
                f.kind = r.kind();
                l.roads.add(f);
            } else if (r.sees("thing")) {
                some(r, l.things.size(), 6);
                name(r, l, l.things);
                l.thingSpot.add(r.known(l.spots));
            } else if (r.sees("walker")) {
                some(r, l.men.size(), 5);
                name(r, l, l.men);
                Man m = new Man();
                m.spot = r.known(l.spots);
                m.pace = r.number(1, 5);
                l.walkers.add(m);
            } else if (r.sees("breath")) {
                if (breath) {
                    throw r.fault(3);
                }
                breath = true;
                r.at++;
                l.breath = r.number(2, 40);
            } else {
                throw r.fault(1);
            }
            r.must(";");
            lines++;
        }
        return lines;
    }

    private static void some(Reader r, int has, int most) {
        if (has == most) {
            throw r.fault(4);
        }
        r.at++;
    }

    private static void name(Reader r, Land l, Map<String, Integer> sort) {
        String word = r.freeWord();
        if (l.spots.containsKey(word) || l.things.containsKey(word) || l.men.containsKey(word)) {
            throw r.fault(3);
        }
        r.at++;
        sort.put(word, sort.size());
    }

    public int fault() {
        return fault;
    }

    private boolean isWalker(int w) {
        return w >= 0 && w < land.walkers.size();
    }

    private boolean isFold(int f) {
        return f >= 0 && f < land.roads.size();
    }

    private boolean isSpot(int s) {
        return s >= 0 && s < land.inn.size();
    }

    private boolean isThing(int t) {
        return t >= 0 && t < land.thingSpot.size();
    }

    public int walker(int w, int what) {
        if (!isWalker(w) || what < 0 || what > 6) {
            throw new NoSuchElementException();
        }
        Man m = land.walkers.get(w);
        int knows = 0;
        for (int t : m.knows) {
            knows += 1 << t;
        }
        return new int[] {m.spot, m.pace, m.fold, m.left, m.tired, knows, land.lost(w) ? 1 : 0}[what];
    }

    public int fold(int f, int what) {
        if (!isFold(f) || what < 0 || what > 5) {
            return -1;
        }
        Road r = land.roads.get(f);
        int along = 0;
        for (int w = 0; w < land.walkers.size(); w++) {
            along |= land.walkers.get(w).fold == f ? 1 << w : 0;
        }
        return new int[] {r.a, r.b, land.deep(f), r.kind, r.slipped, along}[what];
    }

    public int spot(int s, int what) {
        if (!isSpot(s) || what < 0 || what > 3) {
            return -1;
        }
        int bits = 0;
        if (what == 0) {
            return land.inn.get(s) ? 1 : 0;
        } else if (what == 1) {
            for (int t = 0; t < land.thingSpot.size(); t++) {
                bits |= land.thingSpot.get(t) == s ? 1 << t : 0;
            }
        } else if (what == 2) {
            for (int f = 0; f < land.roads.size(); f++) {
                bits |= land.over(f, s) >= 0 ? 1 << f : 0;
            }
        } else {
            for (int w = 0; w < land.walkers.size(); w++) {
                bits |= !land.going(w) && land.walkers.get(w).spot == s ? 1 << w : 0;
            }
        }
        return bits;
    }

    public int now(int what) {
        int going = 0;
        int lost = 0;
        int tired = 0;
        for (int w = 0; w < land.walkers.size(); w++) {
            going |= land.going(w) ? 1 << w : 0;
            lost |= land.lost(w) ? 1 << w : 0;
            tired += land.walkers.get(w).tired;
        }
        int slipped = 0;
        for (int f = 0; f < land.roads.size(); f++) {
            slipped |= land.roads.get(f).slipped > 0 ? 1 << f : 0;
        }
        int[] all = {land.hour, land.mood, going, slipped, land.known(), lost, tired, land.gone};
        return what >= 0 && what < 8 ? all[what] : -1;
    }

    private int did(Land was, int why) {
        if (why == 0) {
            keep(was);
        }
        return why;
    }

    private void keep(Land was) {
        past.addLast(was);
        if (past.size() > 8) {
            past.removeFirst();
        }
    }

    public int walk(int w, int f) {
        return isWalker(w) && isFold(f) ? did(land.copy(), land.go(w, f)) : -1;
    }

    public int learn(int w, int t) {
        return isWalker(w) && isThing(t) ? did(land.copy(), land.learn(w, t)) : -1;
    }

    public int tell(int w, int x) {
        return isWalker(w) && isWalker(x) ? did(land.copy(), land.tell(w, x)) : -1;
    }

    public int rest(int w) {
        return isWalker(w) ? did(land.copy(), land.rest(w)) : -1;
    }

    public int cream(int f) {
        return isFold(f) ? did(land.copy(), land.cream(f)) : -1;
    }

    public int slip(int f, int n) {
        return isFold(f) && n >= 1 && n <= 30 ? did(land.copy(), land.slip(f, n)) : -1;
    }

    public int mood(int kind) {
        return kind >= 0 && kind <= 2 ? did(land.copy(), land.setMood(kind)) : -1;
    }

    public int hours(int n) {
        if (n < 1 || n > 60) {
            return -1;
        }
        Land was = land.copy();
        int went = 0;
        while (went < n && land.pass()) {
            went++;
        }
        if (went > 0) {
            keep(was);
        }
        return went;
    }

    public int undo() {
        if (past.isEmpty()) {
            return -1;
        }
        Saying saying = land.saying;
        int ones = land.ones;
        land = past.removeLast();
        land.saying = saying;
        land.ones = ones;
        return past.size();
    }

    public int takes(int w, int f) {
        return isWalker(w) && isFold(f) ? land.time(f, land.walkers.get(w).pace) : -1;
    }

    private boolean stands(int w) {
        return isWalker(w) && !land.going(w);
    }

    public int way(int w, int s) {
        if (!stands(w) || !isSpot(s)) {
            return -1;
        }
        Man m = land.walkers.get(w);
        Map<Integer, List<Integer>> best = new HashMap<>();
        Map<Integer, Integer> least = new HashMap<>();
        land.paths(m.spot, m.pace, new HashSet<>(Arrays.asList(m.spot)), 0, new ArrayList<>(), best, least);
        if (!least.containsKey(s)) {
            return -1;
        }
        way = best.get(s);
        return least.get(s);
    }

    public int wayAt(int k) {
        return k >= 0 && k < way.size() ? way.get(k) : -1;
    }

    public int reaches(int w) {
        return stands(w) ? land.reaches(w) : -1;
    }

    public int gather(int w) {
        if (!stands(w)) {
            return -1;
        }
        Man m = land.walkers.get(w);
        List<Integer> wanted = new ArrayList<>();
        for (int t = 0; t < land.thingSpot.size(); t++) {
            if (!m.knows.contains(t)) {
                wanted.add(t);
            }
        }
        Map<Integer, Map<Integer, Integer>> far = new HashMap<>();
        for (int s = 0; s < land.inn.size(); s++) {
            far.put(s, land.far(s, m.pace));
        }
        int[] least = {-1};
        List<Integer> found = new ArrayList<>();
        orders(far, m.spot, wanted, new ArrayList<>(), 0, least, found);
        if (least[0] >= 0) {
            order = found;
        }
        return least[0];
    }

    private void orders(Map<Integer, Map<Integer, Integer>> far, int here, List<Integer> wanted, List<Integer> done,
            int hours, int[] least, List<Integer> found) {
        if (done.size() == wanted.size()) {
            if (least[0] < 0 || hours < least[0]) {
                least[0] = hours;
                found.clear();
                found.addAll(done);
            }
            return;
        }
        for (int t : wanted) {
            Integer leg = far.get(here).get(land.thingSpot.get(t));
            if (!done.contains(t) && leg != null) {
                done.add(t);
                orders(far, land.thingSpot.get(t), wanted, done, hours + leg, least, found);
                done.remove(done.size() - 1);
            }
        }
    }

    public int gatherAt(int k) {
        return k >= 0 && k < order.size() ? order.get(k) : -1;
    }

    public int meet(int w, int x) {
        if (!stands(w) || !stands(x)) {
            return -1;
        }
        Map<Integer, Integer> one = land.far(land.walkers.get(w).spot, land.walkers.get(w).pace);
        Map<Integer, Integer> two = land.far(land.walkers.get(x).spot, land.walkers.get(x).pace);
        TreeMap<Integer, Integer> at = new TreeMap<>();
        for (int s = land.inn.size() - 1; s >= 0; s--) {
            if (one.containsKey(s) && two.containsKey(s)) {
                at.put(Math.max(one.get(s), two.get(s)), s);
            }
        }
        if (at.isEmpty()) {
            return -1;
        }
        meetAt = at.firstEntry().getValue();
        return at.firstKey();
    }

    public int meetAt() {
        return meetAt;
    }

    public int inns(int n) {
        if (n < 0 || n > 99) {
            return -1;
        }
        int spots = land.inn.size();
        List<Map<Integer, Integer>> far = new ArrayList<>();
        for (int s = 0; s < spots; s++) {
            far.add(land.far(s, 1));
        }
        for (int many = 0; ; many++) {
            for (int set = 0; set < 1 << spots; set++) {
                if (Integer.bitCount(set) == many && enough(far, set, n)) {
                    innsAt = set;
                    return many;
                }
            }
        }
    }

    private boolean enough(List<Map<Integer, Integer>> far, int set, int n) {
        for (Map<Integer, Integer> from : far) {
            boolean some = false;
            for (Map.Entry<Integer, Integer> e : from.entrySet()) {
                boolean inn = land.inn.get(e.getKey()) || (set >> e.getKey() & 1) == 1;
                some |= inn && e.getValue() <= n;
            }
            if (!some) {
                return false;
            }
        }
        return true;
    }

    public int innsAt() {
        return innsAt;
    }

    public int came() {
        String text = takeTape();
        if (text.length() % 2 == 1 || text.isEmpty() || text.length() > 12) {
            return -1;
        }
        int bits = (1 << land.inn.size()) - 1;
        for (int i = 0; i < text.length(); i += 2) {
            if (text.charAt(i) >= land.inn.size()) {
                return -1;
            }
            Map<Integer, Integer> far = land.far(text.charAt(i), 1);
            for (int s = 0; s < land.inn.size(); s++) {
                if (!far.containsKey(s) || far.get(s) != text.charAt(i + 1)) {
                    bits &= ~(1 << s);
                }
            }
        }
        if (bits > 0) {
            ask = bestAsk(bits);
        }
        return bits;
    }

    private int bestAsk(int bits) {
        int best = -1;
        int fewest = 99;
        for (int q = 0; q < land.inn.size(); q++) {
            Map<Integer, Integer> far = land.far(q, 1);
            Map<Integer, Integer> many = new HashMap<>();
            int most = 0;
            for (int s = 0; s < land.inn.size(); s++) {
                if ((bits >> s & 1) == 1) {
                    most = Math.max(most, many.merge(far.getOrDefault(s, -1), 1, Integer::sum));
                }
            }
            if (most < fewest) {
                fewest = most;
                best = q;
            }
        }
        return best;
    }

    public int ask() {
        return ask;
    }

    public int mean(int s, int what) {
        int deep = 0;
        int many = 0;
        for (int f = 0; f < land.roads.size(); f++) {
            if (isSpot(s) && land.over(f, s) >= 0) {
                deep += land.deep(f);
                many++;
            }
        }
        if (many == 0 || what < 0 || what > 1) {
            throw new NoSuchElementException();
        }
        int g = java.math.BigInteger.valueOf(deep).gcd(java.math.BigInteger.valueOf(many)).intValue();
        return what == 0 ? deep / g : many / g;
    }

    public int tag(int w) {
        if (!isWalker(w)) {
            return -1;
        }
        Man m = land.walkers.get(w);
        String spot = land.nameOf(land.spots, m.spot);
        tag = land.nameOf(land.men, w);
        tag += land.going(w) ? " to " + spot + " in " + m.left : " at " + spot;
        tag += land.lost(w) ? " lost" : "";
        return tag.length();
    }

    public int byteAt(int i) {
        return i >= 0 && i < tag.length() ? tag.charAt(i) : -1;
    }

    public int drawn(int n, int seed) {
        if (n < 1 || n > 60) {
            return -1;
        }
        Land was = land.copy();
        int went = land.drawn(n, seed);
        if (went > 0) {
            keep(was);
        }
        return went;
    }

    public int odds(int w, int n, int seed) {
        if (!isWalker(w) || n < 1 || n > 30) {
            return -1;
        }
        int many = 0;
        for (int i = 0; i < n; i++) {
            Land l = land.copy();
            l.drawn(20, seed + i);
            many += l.walkers.get(w).knows.size() > land.walkers.get(w).knows.size() ? 1 : 0;
        }
        return many;
    }

    private static final class Line {
        String deed;
        int who;
        int what;
        int n;
    }

    public int book(int lives) {
        if (lives < 0 || lives > 1) {
            return -1000;
        }
        String text = takeTape();
        fault = 0;
        List<Line> lines;
        try {
            lines = readBook(new Reader(text, 400));
        } catch (Fault f) {
            fault = f.kind;
            return -2 - f.place;
        }
        Land l = land.copy();
        int at = 0;
        int why = 0;
        while (at < lines.size()) {
            why = live(l, lines.get(at));
            if (why != 0) {
                break;
            }
            at++;
        }
        told = new int[] {why, at, l.hour, l.known()};
        if (lives == 1 && at > 0) {
            keep(land);
            land = l;
        }
        return why == 0 ? -1 : at;
    }

    private List<Line> readBook(Reader r) {
        List<Line> lines = new ArrayList<>();
        while (!r.ended()) {
            Line l = new Line();
            int start = r.at;
            if (r.sees("cream") || r.sees("slip") || r.sees("mood") || r.sees("hour")) {
                l.deed = r.look().text;
                r.at++;
            } else {
                l.who = r.known(land.men);
            }
            if (lines.size() == 40) {
                r.at = start;
                throw r.fault(4);
            }
            if (l.deed == null) {
                if (!r.sees("goes") && !r.sees("learns") && !r.sees("tells") && !r.sees("rests")) {
                    throw r.fault(1);
                }
                l.deed = r.look().text;
                r.at++;
            }
            switch (l.deed) {
                case "goes":
                case "cream":
                    l.what = r.number(0, 11);
                    break;
                case "learns":
                    l.what = r.known(land.things);
                    break;
                case "tells":
                    l.what = r.known(land.men);
                    break;
                case "slip":
                    l.what = r.number(0, 11);
                    l.n = r.number(1, 30);
                    break;
                case "mood":
                    l.what = r.kind();
                    break;
                case "hour":
                    l.n = r.number(1, 60);
                    break;
                default:
                    break;
            }
            r.must(";");
            lines.add(l);
        }
        return lines;
    }

    private int live(Land l, Line line) {
        boolean there = line.what < l.roads.size();
        int why;
        switch (line.deed) {
            case "goes":
                return there ? l.go(line.who, line.what) : 9;
            case "learns":
                why = l.learn(line.who, line.what);
                return why == 0 ? 0 : 10 + why;
            case "tells":
                why = l.tell(line.who, line.what);
                return why == 0 ? 0 : 20 + why;
            case "rests":
                why = l.rest(line.who);
                return why == 0 ? 0 : 30 + why;
            case "cream":
                return there ? 41 * l.cream(line.what) : 49;
            case "slip":
                why = there ? l.slip(line.what, line.n) : 9;
                return why == 0 ? 0 : 50 + why;
            case "mood":
                return 61 * l.setMood(line.what);
            default:
                if (l.hour + line.n > 400) {
                    return 71;
                }
                for (int i = 0; i < line.n; i++) {
                    l.pass();
                }
                return 0;
        }
    }

    public int told(int what) {
        return told == null || what < 0 || what > 3 ? -1 : told[what];
    }

    public int sentence() {
        Reader r = new Reader(takeTape(), 200);
        fault = 0;
        try {
            int[] ones = {0};
            Saying s = or(r, ones, 1);
            if (!r.ended()) {
                throw r.fault(1);
            }
            land.saying = s;
            land.ones = ones[0];
            return ones[0];
        } catch (Fault f) {
            fault = f.kind;
            return -1 - f.place;
        }
    }

    private Saying or(Reader r, int[] ones, int depth) {
        Saying a = and(r, ones, depth);
        while (r.eats("or")) {
            Saying left = a;
            Saying right = and(r, ones, depth);
            a = (l, w) -> left.of(l, w) || right.of(l, w);
        }
        return a;
    }

    private Saying and(Reader r, int[] ones, int depth) {
        Saying a = one(r, ones, depth);
        while (r.eats("and")) {
            Saying left = a;
            Saying right = one(r, ones, depth);
            a = (l, w) -> left.of(l, w) && right.of(l, w);
        }
        return a;
    }

    private Saying one(Reader r, int[] ones, int depth) {
        List<String> firsts = Arrays.asList("(", "not", "going", "housed", "lost", "at", "knows", "left", "tired",
                "pace", "number");
        if (r.look().bad || r.look().end || !firsts.contains(r.look().text)) {
            throw r.fault(1);
        }
        if (ones[0] == 20 || depth == 9) {
            throw r.fault(4);
        }
        ones[0]++;
        String first = r.look().text;
        r.at++;
        switch (first) {
            case "not": {
                Saying a = one(r, ones, depth + 1);
                return (l, w) -> !a.of(l, w);
            }
            case "(": {
                Saying a = or(r, ones, depth + 1);
                r.must(")");
                return a;
            }
            case "going":
                return (l, w) -> l.going(w);
            case "housed":
                return (l, w) -> !l.going(w) && l.inn.get(l.walkers.get(w).spot);
            case "lost":
                return (l, w) -> l.lost(w);
            case "at": {
                int s = r.known(land.spots);
                return (l, w) -> !l.going(w) && l.walkers.get(w).spot == s;
            }
            case "knows": {
                int t = r.known(land.things);
                return (l, w) -> l.walkers.get(w).knows.contains(t);
            }
            default: {
                String sign = r.look().bad || r.look().end ? "" : r.look().text;
                if (!sign.equals("<") && !sign.equals("=") && !sign.equals(">")) {
                    throw r.fault(1);
                }
                r.at++;
                int n = r.number(0, 999);
                return (l, w) -> {
                    Man m = l.walkers.get(w);
                    int x = first.equals("left") ? m.left : first.equals("tired") ? m.tired
                            : first.equals("pace") ? m.pace : w;
                    return sign.equals("<") ? x < n : sign.equals("=") ? x == n : x > n;
                };
            }
        }
    }

    public int said(int k) {
        if (land.saying == null) {
            return -1;
        }
        List<Integer> those = new ArrayList<>();
        for (int w = 0; w < land.walkers.size(); w++) {
            if (land.saying.of(land, w)) {
                those.add(w);
            }
        }
        return k == -1 ? those.size() : k >= 0 && k < those.size() ? those.get(k) : -1;
    }

    public boolean image(int k) {
        if (k != 0 && k != 1) {
            return false;
        }
        images[k] = land.copy();
        return true;
    }

    public boolean restore(int k) {
        if (k != 0 && k != 1 || images[k] == null) {
            return false;
        }
        land = images[k].copy();
        past.clear();
        return true;
    }

    public int count(int what) {
        int[] all = {land.spots.size(), land.roads.size(), land.things.size(), land.men.size(), land.breath,
            tape.length()};
        return what >= 0 && what < 6 ? all[what] : -1;
    }
}
