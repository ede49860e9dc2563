import java.util.ArrayDeque;
import java.util.ArrayList;
import java.util.Deque;
import java.util.HashMap;
import java.util.List;
import java.util.Map;
import java.util.TreeMap;
import java.util.regex.Matcher;
import java.util.regex.Pattern;

/**
 * The document once more, written apart from the class and in another way: ways by trying all of them,
 * the text by patterns, each hour told anew. Slow, and only to compare with.
 */
final class Model {
    static final int BAD = -1, NO = -2, FULL = -3, NONE = -4;
    private static final String FIRST = "n6;r0,1,2;r1,2,3;r2,3,1;r3,4,4;r4,5,2;r5,0,6;r1,4,5;"
        + "p0,0,10;p1,1,45;p2,4,30;p3,2,20;p0,5,59;w0,3;w5,2;w2,0;w4,1;";
    private static final Pattern ITEM =
        Pattern.compile("(?:(n)(\\d\\d?)|([rp])(\\d\\d?),(\\d\\d?),(\\d\\d?)|(w)(\\d\\d?),(\\d\\d?));");

    /** A post: retired when it has no town. */
    private static final class Post {
        int kind;
        Integer town;
        int age;
        Map<Integer, int[]> arms = new HashMap<>();

        Post copy() {
            Post p = new Post();
            p.kind = kind;
            p.town = town;
            p.age = age;
            p.arms = new HashMap<>(arms);
            return p;
        }
    }

    private static final class World {
        int n = 6;
        int[][] roads = new int[8][8];
        List<Post> posts = new ArrayList<>();
        List<int[]> walkers = new ArrayList<>();
        int hour;
        int years;

        World copy() {
            World w = new World();
            w.n = n;
            for (int i = 0; i < 8; i++) {
                w.roads[i] = roads[i].clone();
            }
            for (Post p : posts) {
                w.posts.add(p.copy());
            }
            for (int[] one : walkers) {
                w.walkers.add(one.clone());
            }
            w.hour = hour;
            w.years = years;
            return w;
        }

        /** Fewest miles of all simple ways that leave out the towns in used. */
        int ways(int from, int to, int used) {
            if (from == to) {
                return 0;
            }
            int best = Integer.MAX_VALUE;
            for (int t = 0; t < n; t++) {
                if (roads[from][t] > 0 && (used >> t & 1) == 0) {
                    int rest = ways(t, to, used | 1 << t);
                    if (rest != Integer.MAX_VALUE) {
                        best = Math.min(best, rest + roads[from][t]);
                    }
                }
            }
            return best;
        }

        /** {next town, miles}, or null if there is no way or it is there. */
        int[] path(int from, int to) {
            int whole = ways(from, to, 1 << from);
            if (from == to || whole == Integer.MAX_VALUE) {
                return null;
            }
            for (int t = 0; t < n; t++) {
                if (roads[from][t] > 0) {
                    int rest = ways(t, to, 1 << from | 1 << t);
                    if (rest != Integer.MAX_VALUE && rest + roads[from][t] == whole) {
                        return new int[] {t, whole};
                    }
                }
            }
            throw new IllegalStateException("a way without a first step");
        }

        int painted(Post p) {
            p.arms.clear();
            for (int y = 0; y < n; y++) {
                int[] arm = path(p.town, y);
                if (arm != null) {
                    p.arms.put(y, arm);
                }
            }
            return p.arms.size();
        }

        Integer turned(int spot, Integer to) {
            if (to == null) {
                return null;
            }
            for (int t = to + 1; t < n; t++) {
                if (roads[spot][t] > 0) {
                    return t;
                }
            }
            for (int t = 0; t < to; t++) {
                if (roads[spot][t] > 0) {
                    return t;
                }
            }
            return roads[spot][to] > 0 ? to : null;
        }

        Integer points(Post p, int y, boolean onceMore) {
            if (p.town == null || !p.arms.containsKey(y)) {
                return null;
            }
            Integer to = p.arms.get(y)[0];
            if (p.kind == 2 || (p.kind == 1 && p.age >= 40)) {
                to = turned(p.town, to);
            }
            if (p.kind == 3 && hour % 2 != 0) {
                to = turned(p.town, turned(p.town, to));
            }
            return onceMore ? turned(p.town, to) : to;
        }

        void anHour(int bent) {
            for (int[] one : walkers) {
                if (one[0] != one[1]) {
                    one[0] = goes(one, bent);
                }
            }
            hour++;
        }

        private int goes(int[] one, int bent) {
            for (int p = 0; p < posts.size(); p++) {
                Post post = posts.get(p);
                if (post.town != null && post.town == one[0]) {
                    Integer to = points(post, one[1], (bent >> p & 1) != 0);
                    return to != null && roads[one[0]][to] > 0 ? to : one[0];
                }
            }
            TreeMap<Integer, Integer> byMiles = new TreeMap<>();
            for (int t = 0; t < n; t++) {
                if (roads[one[0]][t] > 0) {
                    byMiles.putIfAbsent(roads[one[0]][t], t);
                }
            }
            return byMiles.isEmpty() ? one[0] : byMiles.firstEntry().getValue();
        }

        int aYear() {
            int gone = 0;
            years++;
            for (Post p : posts) {
                if (p.town != null && ++p.age == 60) {
                    p.town = null;
                    p.arms.clear();
                    gone++;
                }
            }
            return gone;
        }

        void plain(int town) {
            Post p = new Post();
            p.town = town;
            painted(p);
            posts.add(p);
        }

        int comeIn(int hours, int bent) {
            for (int i = 0; i < hours; i++) {
                anHour(bent);
            }
            int come = 0;
            for (int[] one : walkers) {
                come += one[0] == one[1] ? 1 : 0;
            }
            return come;
        }
    }

    private String text = "";
    private World w;
    private final Deque<World> undone = new ArrayDeque<>();
    private final Deque<World> kept = new ArrayDeque<>();
    private final List<int[]> tellings = new ArrayList<>();
    private final List<int[]> sightings = new ArrayList<>();

    Model() {
        text = FIRST;
        lay();
        text = "";
    }

    private boolean town(int... ts) {
        for (int t : ts) {
            if (t < 0 || t >= w.n) {
                return false;
            }
        }
        return true;
    }

    private boolean post(int p) {
        return p >= 0 && p < w.posts.size();
    }

    private boolean walker(int i) {
        return i >= 0 && i < w.walkers.size();
    }

    int write(int letter) {
        if (letter < 32 || letter > 126) {
            return BAD;
        }
        if (text.length() == 200) {
            return FULL;
        }
        text += (char) letter;
        return text.length();
    }

    int wipe() {
        int was = text.length();
        text = "";
        return was;
    }

    private int read(World into) {
        Matcher m = ITEM.matcher(text);
        int at = 0;
        while (at < text.length()) {
            m.region(at, text.length());
            if (!m.lookingAt() || !take(m, at, into)) {
                return at;
            }
            at = m.end();
        }
        return NONE;
    }

    private boolean take(Matcher m, int at, World into) {
        if (m.group(1) != null) {
            into.n = Integer.parseInt(m.group(2));
            return at == 0 && into.n >= 2 && into.n <= 8;
        }
        if (m.group(7) != null) {
            int x = Integer.parseInt(m.group(8));
            int y = Integer.parseInt(m.group(9));
            into.walkers.add(new int[] {x, y});
            return x < into.n && y < into.n && x != y && into.walkers.size() <= 5;
        }
        int a = Integer.parseInt(m.group(4));
        int b = Integer.parseInt(m.group(5));
        int c = Integer.parseInt(m.group(6));
        if (m.group(3).equals("r")) {
            if (a >= into.n || b >= into.n || a == b || c < 1 || c > 9) {
                return false;
            }
            into.roads[a][b] = c;
            into.roads[b][a] = c;
            return true;
        }
        Post p = new Post();
        p.kind = a;
        p.town = b;
        p.age = c;
        into.posts.add(p);
        return a <= 3 && b < into.n && c <= 59 && into.posts.size() <= 6;
    }

    int fault() {
        return read(new World());
    }

    int lay() {
        World told = new World();
        if (read(told) != NONE || told.posts.isEmpty() || told.walkers.isEmpty()) {
            return NO;
        }
        w = told;
        for (Post p : w.posts) {
            w.painted(p);
        }
        undone.clear();
        kept.clear();
        tellings.clear();
        sightings.clear();
        return w.posts.size();
    }

    int road(int a, int b) {
        if (!town(a, b) || a == b) {
            return BAD;
        }
        return w.roads[a][b] == 0 ? NONE : w.roads[a][b];
    }

    int post(int p, int what) {
        if (!post(p) || what < 0 || what > 2) {
            return BAD;
        }
        Post one = w.posts.get(p);
        int stands = one.town == null ? NONE : one.town;
        return what == 0 ? one.kind : what == 1 ? stands : one.age;
    }

    int arm(int p, int y, int what) {
        if (!post(p) || !town(y) || what < 0 || what > 2) {
            return BAD;
        }
        Post one = w.posts.get(p);
        if (!one.arms.containsKey(y)) {
            return NONE;
        }
        if (what < 2) {
            return one.arms.get(y)[what];
        }
        Integer to = w.points(one, y, false);
        return to == null ? NONE : to;
    }

    int walker(int i, int what) {
        if (!walker(i) || what < 0 || what > 2) {
            return BAD;
        }
        int[] one = w.walkers.get(i);
        return what < 2 ? one[what] : one[0] == one[1] ? 1 : 0;
    }

    private void remember() {
        undone.addLast(w.copy());
        if (undone.size() > 8) {
            undone.removeFirst();
        }
    }

    int pass(int n) {
        if (n < 1 || n > 20) {
            return BAD;
        }
        if (w.hour + n > 999) {
            return NO;
        }
        remember();
        w.comeIn(n, 0);
        return w.hour;
    }

    int year() {
        remember();
        return w.aYear();
    }

    int lays(int a, int b, int l) {
        if (!town(a, b) || a == b || l < 0 || l > 9) {
            return BAD;
        }
        remember();
        int was = w.roads[a][b];
        w.roads[a][b] = l;
        w.roads[b][a] = l;
        return was;
    }

    int paint(int p) {
        if (!post(p)) {
            return BAD;
        }
        if (w.posts.get(p).town == null) {
            return NO;
        }
        remember();
        return w.painted(w.posts.get(p));
    }

    int move(int p, int x) {
        if (!post(p) || !town(x)) {
            return BAD;
        }
        Integer was = w.posts.get(p).town;
        if (was == null || was == x) {
            return NO;
        }
        remember();
        w.posts.get(p).town = x;
        return was;
    }

    int retire(int p) {
        if (!post(p)) {
            return BAD;
        }
        Integer was = w.posts.get(p).town;
        if (was == null) {
            return NO;
        }
        remember();
        w.posts.get(p).town = null;
        w.posts.get(p).arms.clear();
        return was;
    }

    int undo() {
        if (undone.isEmpty()) {
            return NO;
        }
        w = undone.removeLast();
        return undone.size();
    }

    int comes(int i) {
        if (!walker(i)) {
            return BAD;
        }
        for (int k = 0; k <= 40; k++) {
            if (trail(i, k) == w.walkers.get(i)[1]) {
                return k;
            }
        }
        return NONE;
    }

    int trail(int i, int k) {
        if (!walker(i) || k < 0 || k > 40) {
            return BAD;
        }
        World then = w.copy();
        then.comeIn(k, 0);
        return then.walkers.get(i)[0];
    }

    int lost() {
        int bits = 0;
        for (int i = 0; i < w.walkers.size(); i++) {
            bits += comes(i) == NONE ? 1 << i : 0;
        }
        return bits;
    }

    int helps(int what) {
        if (what != 0 && what != 1) {
            return BAD;
        }
        int which = NONE;
        int most = NONE;
        for (int t = w.n - 1; t >= 0; t--) {
            boolean free = true;
            for (Post p : w.posts) {
                free &= p.town == null || p.town != t;
            }
            if (free) {
                World then = w.copy();
                then.plain(t);
                int come = then.comeIn(40, 0);
                if (come >= most) {
                    most = come;
                    which = t;
                }
            }
        }
        return what == 0 ? which : most;
    }

    int paints(int what) {
        if (what != 0 && what != 1) {
            return BAD;
        }
        int which = -1;
        int most = -1;
        for (int size = 0; size <= w.posts.size(); size++) {
            for (int set = 0; set < 1 << w.posts.size(); set++) {
                if (Integer.bitCount(set) == size && canPaint(set)) {
                    World then = w.copy();
                    for (int p = 0; p < then.posts.size(); p++) {
                        if ((set >> p & 1) != 0) {
                            then.painted(then.posts.get(p));
                        }
                    }
                    int come = then.comeIn(40, 0);
                    if (come > most) {
                        most = come;
                        which = set;
                    }
                }
            }
        }
        return what == 0 ? which : most;
    }

    private boolean canPaint(int set) {
        for (int p = 0; p < w.posts.size(); p++) {
            if ((set >> p & 1) != 0 && w.posts.get(p).town == null) {
                return false;
            }
        }
        return true;
    }

    int cover(int what) {
        if (what != 0 && what != 1) {
            return BAD;
        }
        for (int size = 0; size <= w.n; size++) {
            for (int set = 0; set < 1 << w.n; set++) {
                if (Integer.bitCount(set) == size) {
                    World then = w.copy();
                    then.posts.clear();
                    for (int t = 0; t < w.n; t++) {
                        if ((set >> t & 1) != 0) {
                            then.plain(t);
                        }
                    }
                    if (then.comeIn(40, 0) == w.walkers.size()) {
                        return what == 0 ? size : set;
                    }
                }
            }
        }
        return NONE;
    }

    int far(int a, int b) {
        if (!town(a, b)) {
            return BAD;
        }
        int miles = w.ways(a, b, 1 << a);
        return miles == Integer.MAX_VALUE ? NONE : miles;
    }

    int told(int y, int u, int m) {
        if (!town(y, u) || m < 0 || m > 72) {
            return BAD;
        }
        if (tellings.size() == 6) {
            return FULL;
        }
        tellings.add(new int[] {y, u, m});
        return tellings.size();
    }

    int stood() {
        int bits = 0;
        for (int x = 0; x < w.n; x++) {
            boolean fits = true;
            for (int[] one : tellings) {
                int[] arm = w.path(x, one[0]);
                fits &= arm != null && arm[0] == one[1] && arm[1] == one[2];
            }
            bits += fits ? 1 << x : 0;
        }
        return bits;
    }

    int next() {
        int bits = stood();
        int best = NONE;
        int fewest = 99;
        for (int y = 0; y < w.n; y++) {
            Map<String, Integer> parts = new HashMap<>();
            int most = 0;
            for (int x = 0; x < w.n; x++) {
                if ((bits >> x & 1) != 0) {
                    int[] arm = w.path(x, y);
                    String says = arm == null ? "none" : arm[0] + " " + arm[1];
                    most = Math.max(most, parts.merge(says, 1, Integer::sum));
                }
            }
            if (most > 0 && most < fewest) {
                fewest = most;
                best = y;
            }
        }
        return best;
    }

    int seen(int p, int y, int u) {
        if (!post(p) || !town(y, u)) {
            return BAD;
        }
        if (sightings.size() == 6) {
            return FULL;
        }
        sightings.add(new int[] {p, y, u});
        return sightings.size();
    }

    int kinds(int p) {
        if (!post(p)) {
            return BAD;
        }
        int bits = 0;
        for (int kind = 0; kind < 4; kind++) {
            Post other = w.posts.get(p).copy();
            other.kind = kind;
            boolean so = true;
            for (int[] one : sightings) {
                Integer to = w.points(other, one[1], false);
                so &= one[0] != p || (to != null && to == one[2]);
            }
            bits += so ? 1 << kind : 0;
        }
        return bits;
    }

    int forget() {
        int were = tellings.size() + sightings.size();
        tellings.clear();
        sightings.clear();
        return were;
    }

    int likely(int i, int x, int part) {
        if (!walker(i) || x < 0 || x > 10 || part < 0 || part > 1) {
            return BAD;
        }
        long above = 0;
        long below = 1;
        for (int p = 0; p < w.posts.size(); p++) {
            below *= 10;
        }
        // retired posts may be bent too here: they point nowhere, and nowhere stays so
        for (int bent = 0; bent < 1 << w.posts.size(); bent++) {
            long weight = 1;
            for (int p = 0; p < w.posts.size(); p++) {
                weight *= (bent >> p & 1) != 0 ? x : 10 - x;
            }
            World then = w.copy();
            then.comeIn(40, bent);
            above += then.walkers.get(i)[0] == then.walkers.get(i)[1] ? weight : 0;
        }
        long common = below;
        while (above % common != 0 || below % common != 0) {
            common--;
        }
        return (int) ((part == 0 ? above : below) / common);
    }

    int century(int z, int n, int what) {
        if (z < 0 || z > 9999 || n < 1 || n > 60 || what < 0 || what > 2) {
            return BAD;
        }
        World then = w.copy();
        for (long time = 0; time < n; time++) {
            long x = 7919L * z + 6151L * time + 1;
            long draw = (x * x) % 65521 / 2;
            Post p = then.posts.get((int) (draw % then.posts.size()));
            int town = (int) ((draw / 8) % then.n);
            long act = (draw / 64) % 6;
            if (act == 0 && p.town != null) {
                then.painted(p);
            } else if (act == 1 && p.town != null) {
                p.town = town;
            } else if (act == 2) {
                then.aYear();
            } else if (act == 3) {
                int other = (town + 1) % then.n;
                int miles = then.roads[town][other] > 0 ? 0 : (int) ((draw / 512) % 9 + 1);
                then.roads[town][other] = miles;
                then.roads[other][town] = miles;
            }
            then.anHour(0);
        }
        int come = then.comeIn(0, 0);
        int retired = 0;
        for (Post p : then.posts) {
            retired += p.town == null ? 1 : 0;
        }
        return what == 0 ? come : what == 1 ? retired : roadSums(then)[1];
    }

    private int[] roadSums(World of) {
        int[] sums = new int[2];
        for (int a = 0; a < of.n; a++) {
            for (int b = 0; b < a; b++) {
                sums[0] += of.roads[a][b] > 0 ? 1 : 0;
                sums[1] += of.roads[a][b];
            }
        }
        return sums;
    }

    int keep() {
        if (kept.size() == 2) {
            return FULL;
        }
        kept.addLast(w.copy());
        return kept.size();
    }

    int back() {
        if (kept.isEmpty()) {
            return NO;
        }
        w = kept.removeLast();
        undone.clear();
        return kept.size();
    }

    int count(int what) {
        int retired = 0;
        for (Post p : w.posts) {
            retired += p.town == null ? 1 : 0;
        }
        int[] counts = {w.n, w.posts.size(), w.walkers.size(), w.hour, w.years, roadSums(w)[0], retired,
            w.copy().comeIn(0, 0), tellings.size(), sightings.size(), undone.size(), kept.size(), text.length()};
        return what >= 0 && what < counts.length ? counts[what] : BAD;
    }
}
