/** A yard of signposts, the roads they tell of and the walkers who ask them. */
public final class SignpostYard {
    public static final int BAD = -1, NO = -2, FULL = -3, NONE = -4;

    private static final String FIRST_TEXT =
        "n6;r0,1,2;r1,2,3;r2,3,1;r3,4,4;r4,5,2;r5,0,6;r1,4,5;p0,0,10;p1,1,45;p2,4,30;p3,2,20;p0,5,59;w0,3;w5,2;w2,0;w4,1;";

    private static final int MOST_LETTERS = 200, MOST_TOWNS = 8, MOST_POSTS = 6, MOST_WALKERS = 5;
    private static final int TOWNS_UNTOLD = 6, MOST_NUMBERS = 3;
    private static final int MOST_ROAD = 9, MOST_MILES = 72, OLDEST_AT_FIRST = 59;
    private static final int LAST_HOUR = 999, HOURS_AT_ONCE = 20, HOURS_AHEAD = 40;
    private static final int MOST_UNDONE = 8, MOST_KEPT = 2, MOST_NOTES = 6;
    private static final int PLAIN = 0, WORN = 1, LYING = 2, DRUNK = 3, KINDS = 4;
    private static final int WORN_AT = 40, RETIRED_AT = 60;
    private static final int LARGEST_GRID = 200;

    private final Letters text;
    private final Yard now;
    /** Where what would be is tried: its state between two calls means nothing. */
    private final Yard trial;
    private final Shelf undone;
    private final Shelf kept;
    private final Notes tellings;
    private final Notes sightings;

    public SignpostYard() {
        text = new Letters();
        now = new Yard();
        trial = new Yard();
        undone = new Shelf(MOST_UNDONE);
        kept = new Shelf(MOST_KEPT);
        tellings = new Notes();
        sightings = new Notes();
        for (int i = 0; i < FIRST_TEXT.length(); i++) {
            text.append(FIRST_TEXT.charAt(i));
        }
        text.readInto(now);
        now.paintAll();
        text.empty();
    }

    // ---- yards

    public int write(int letter) {
        if (letter < 32 || letter > 126) {
            return BAD;
        }
        return text.append(letter);
    }

    public int wipe() {
        return text.empty();
    }

    public int fault() {
        return text.readInto(trial);
    }

    public int lay() {
        if (text.readInto(trial) != NONE || trial.posts() < 1 || trial.walkers() < 1) {
            return NO;
        }
        trial.paintAll();
        now.become(trial);
        undone.empty();
        kept.empty();
        tellings.empty();
        sightings.empty();
        return now.posts();
    }

    public int road(int a, int b) {
        if (!now.areTwoTowns(a, b)) {
            return BAD;
        }
        int miles = now.roads().between(a, b);
        return miles > 0 ? miles : NONE;
    }

    public int post(int p, int what) {
        if (!now.isPost(p)) {
            return BAD;
        }
        switch (what) {
            case 0: return now.kindOf(p);
            case 1: return now.townOf(p);
            case 2: return now.ageOf(p);
            default: return BAD;
        }
    }

    public int arm(int p, int y, int what) {
        if (!now.isPost(p) || !now.isTown(y)) {
            return BAD;
        }
        switch (what) {
            case 0: return now.armOf(p, y);
            case 1: return now.milesOf(p, y);
            case 2: return now.pointing(p, y);
            default: return BAD;
        }
    }

    public int walker(int w, int what) {
        if (!now.isWalker(w)) {
            return BAD;
        }
        switch (what) {
            case 0: return now.placeOf(w);
            case 1: return now.goalOf(w);
            case 2: return now.hasCome(w) ? 1 : 0;
            default: return BAD;
        }
    }

    // ---- acts

    public int pass(int n) {
        if (n < 1 || n > HOURS_AT_ONCE) {
            return BAD;
        }
        if (now.hour() + n > LAST_HOUR) {
            return NO;
        }
        undone.setAside(now);
        now.passHours(n);
        return now.hour();
    }

    public int year() {
        undone.setAside(now);
        return now.passYear();
    }

    public int lays(int a, int b, int l) {
        if (!now.areTwoTowns(a, b) || l < 0 || l > MOST_ROAD) {
            return BAD;
        }
        undone.setAside(now);
        int before = now.roads().between(a, b);
        now.roads().change(a, b, l);
        return before;
    }

    public int paint(int p) {
        if (!now.isPost(p)) {
            return BAD;
        }
        if (now.isRetired(p)) {
            return NO;
        }
        undone.setAside(now);
        return now.paintPost(p);
    }

    public int move(int p, int x) {
        if (!now.isPost(p) || !now.isTown(x)) {
            return BAD;
        }
        int before = now.townOf(p);
        if (now.isRetired(p) || before == x) {
            return NO;
        }
        undone.setAside(now);
        now.movePost(p, x);
        return before;
    }

    public int retire(int p) {
        if (!now.isPost(p)) {
            return BAD;
        }
        if (now.isRetired(p)) {
            return NO;
        }
        int before = now.townOf(p);
        undone.setAside(now);
        now.retirePost(p);
        return before;
    }

    public int undo() {
        return undone.giveBack(now) ? undone.held() : NO;
    }

    // ---- what comes

    public int comes(int w) {
        if (!now.isWalker(w)) {
            return BAD;
        }
        trial.become(now);
        for (int hours = 0; hours <= HOURS_AHEAD; hours++) {
            if (trial.hasCome(w)) {
                return hours;
            }
            trial.passHours(1);
        }
        return NONE;
    }

    public int trail(int w, int k) {
        if (!now.isWalker(w) || k < 0 || k > HOURS_AHEAD) {
            return BAD;
        }
        trial.become(now);
        trial.passHours(k);
        return trial.placeOf(w);
    }

    public int lost() {
        trial.become(now);
        trial.passHours(HOURS_AHEAD);
        int bits = 0;
        for (int w = 0; w < trial.walkers(); w++) {
            if (!trial.hasCome(w)) {
                bits |= 1 << w;
            }
        }
        return bits;
    }

    public int helps(int what) {
        if (what < 0 || what > 1) {
            return BAD;
        }
        int best = NONE;
        int most = NONE;
        for (int t = 0; t < now.towns(); t++) {
            if (now.lowestPostIn(t) == NONE) {
                int come = comersHelpedIn(t);
                if (best == NONE || come > most) {
                    best = t;
                    most = come;
                }
            }
        }
        return what == 0 ? best : most;
    }

    private int comersHelpedIn(int town) {
        trial.become(now);
        trial.standPlain(town);
        trial.passHours(HOURS_AHEAD);
        return trial.comeCount();
    }

    public int paints(int what) {
        if (what < 0 || what > 1) {
            return BAD;
        }
        int best = 0;
        int most = comersPainted(0);
        int sets = 1 << now.posts();
        for (int set = 1; set < sets; set++) {
            if (now.noneRetired(set)) {
                int come = comersPainted(set);
                boolean fewer = Integer.bitCount(set) < Integer.bitCount(best);
                if (come > most || (come == most && fewer)) {
                    best = set;
                    most = come;
                }
            }
        }
        return what == 0 ? best : most;
    }

    private int comersPainted(int set) {
        trial.become(now);
        for (int p = 0; p < now.posts(); p++) {
            if (hasBit(set, p)) {
                trial.paintPost(p);
            }
        }
        trial.passHours(HOURS_AHEAD);
        return trial.comeCount();
    }

    public int cover(int what) {
        if (what < 0 || what > 1) {
            return BAD;
        }
        int best = NONE;
        int sets = 1 << now.towns();
        for (int set = 0; set < sets; set++) {
            boolean fewer = best == NONE || Integer.bitCount(set) < Integer.bitCount(best);
            if (fewer && isCover(set)) {
                best = set;
            }
        }
        if (best == NONE) {
            return NONE;
        }
        return what == 0 ? Integer.bitCount(best) : best;
    }

    private boolean isCover(int set) {
        trial.become(now);
        trial.dropPosts();
        for (int t = 0; t < now.towns(); t++) {
            if (hasBit(set, t)) {
                trial.standPlain(t);
            }
        }
        trial.passHours(HOURS_AHEAD);
        return trial.comeCount() == trial.walkers();
    }

    public int far(int a, int b) {
        if (!now.isTown(a) || !now.isTown(b)) {
            return BAD;
        }
        return now.roads().pathMiles(a, b);
    }

    // ---- what was told, seen

    public int told(int y, int u, int m) {
        if (!now.isTown(y) || !now.isTown(u) || m < 0 || m > MOST_MILES) {
            return BAD;
        }
        return tellings.add(y, u, m);
    }

    public int stood() {
        int bits = 0;
        for (int x = 0; x < now.towns(); x++) {
            if (tellsAll(x)) {
                bits |= 1 << x;
            }
        }
        return bits;
    }

    private boolean tellsAll(int x) {
        Roads roads = now.roads();
        for (int i = 0; i < tellings.held(); i++) {
            int y = tellings.number(i, 0);
            boolean points = roads.firstStep(x, y) == tellings.number(i, 1);
            if (!points || roads.pathMiles(x, y) != tellings.number(i, 2)) {
                return false;
            }
        }
        return true;
    }

    public int next() {
        int spots = stood();
        if (spots == 0) {
            return NONE;
        }
        int best = NONE;
        int fewest = 0;
        for (int y = 0; y < now.towns(); y++) {
            int alike = mostAlike(spots, y);
            if (best == NONE || alike < fewest) {
                best = y;
                fewest = alike;
            }
        }
        return best;
    }

    private int mostAlike(int spots, int y) {
        int most = 0;
        for (int x = 0; x < now.towns(); x++) {
            if (hasBit(spots, x)) {
                most = Math.max(most, alikeWith(spots, x, y));
            }
        }
        return most;
    }

    private int alikeWith(int spots, int x, int y) {
        int alike = 0;
        for (int other = 0; other < now.towns(); other++) {
            if (hasBit(spots, other) && tellAlike(x, other, y)) {
                alike++;
            }
        }
        return alike;
    }

    private boolean tellAlike(int x, int other, int y) {
        Roads roads = now.roads();
        int arm = roads.firstStep(x, y);
        if (arm != roads.firstStep(other, y)) {
            return false;
        }
        // without an ARM there are no MILES to tell them apart: there, and no way there, are alike
        return arm == NONE || roads.pathMiles(x, y) == roads.pathMiles(other, y);
    }

    public int seen(int p, int y, int u) {
        if (!now.isPost(p) || !now.isTown(y) || !now.isTown(u)) {
            return BAD;
        }
        return sightings.add(p, y, u);
    }

    public int kinds(int p) {
        if (!now.isPost(p)) {
            return BAD;
        }
        trial.become(now);
        int bits = 0;
        for (int kind = 0; kind < KINDS; kind++) {
            trial.turnInto(p, kind);
            if (fitsSightings(p)) {
                bits |= 1 << kind;
            }
        }
        return bits;
    }

    private boolean fitsSightings(int p) {
        for (int i = 0; i < sightings.held(); i++) {
            boolean ofThis = sightings.number(i, 0) == p;
            if (ofThis && trial.pointing(p, sightings.number(i, 1)) != sightings.number(i, 2)) {
                return false;
            }
        }
        return true;
    }

    public int forget() {
        return tellings.empty() + sightings.empty();
    }

    // ---- chances, centuries

    public int likely(int w, int x, int part) {
        if (!now.isWalker(w) || x < 0 || x > 10 || part < 0 || part > 1) {
            return BAD;
        }
        int above = 0;
        int below = 0;
        int sets = 1 << now.posts();
        for (int set = 0; set < sets; set++) {
            if (now.noneRetired(set)) {
                int weight = weightOf(set, x);
                below += weight;
                if (weight > 0 && comesTwisted(w, set)) {
                    above += weight;
                }
            }
        }
        int common = commonPart(above, below);
        if (common < 1) {
            return BAD;
        }
        return part == 0 ? above / common : below / common;
    }

    private int weightOf(int set, int x) {
        int weight = 1;
        for (int p = 0; p < now.posts(); p++) {
            if (!now.isRetired(p)) {
                weight *= hasBit(set, p) ? x : 10 - x;
            }
        }
        return weight;
    }

    private boolean comesTwisted(int w, int set) {
        trial.become(now);
        trial.twist(set);
        trial.passHours(HOURS_AHEAD);
        return trial.hasCome(w);
    }

    private static int commonPart(int a, int b) {
        int large = b;
        int small = a;
        // Euclid's remainders of two ints are fewer than fifty
        for (int i = 0; i < 64 && small > 0; i++) {
            int rest = large % small;
            large = small;
            small = rest;
        }
        return large;
    }

    public int century(int z, int n, int what) {
        if (z < 0 || z > 9999 || n < 1 || n > 60 || what < 0 || what > 2) {
            return BAD;
        }
        trial.become(now);
        for (int time = 0; time < n; time++) {
            actByDraw(drawn(z, time));
            trial.passHours(1);
        }
        switch (what) {
            case 0: return trial.comeCount();
            case 1: return trial.retiredCount();
            default: return trial.roads().milesOfAll();
        }
    }

    private static int drawn(int z, int time) {
        long x = 7919L * z + 6151L * time + 1L;
        return (int) (x * x % 65521L / 2L);
    }

    private void actByDraw(int draw) {
        int posts = trial.posts();
        int towns = trial.towns();
        if (posts < 1 || towns < 1) {
            return;
        }
        int p = draw % posts;
        int town = draw / 8 % towns;
        switch (draw / 64 % 6) {
            case 0:
                if (!trial.isRetired(p)) {
                    trial.paintPost(p);
                }
                break;
            case 1:
                if (!trial.isRetired(p)) {
                    trial.movePost(p, town);
                }
                break;
            case 2:
                trial.passYear();
                break;
            case 3:
                layOrClose(town, draw / 512 % 9 + 1);
                break;
            default:
                break;
        }
    }

    private void layOrClose(int town, int miles) {
        Roads roads = trial.roads();
        int behind = roads.townBehind(town);
        roads.change(town, behind, roads.between(town, behind) > 0 ? 0 : miles);
    }

    // ---- kept

    public int keep() {
        if (kept.held() >= MOST_KEPT) {
            return FULL;
        }
        kept.setAside(now);
        return kept.held();
    }

    public int back() {
        if (!kept.giveBack(now)) {
            return NO;
        }
        undone.empty();
        return kept.held();
    }

    public int count(int what) {
        switch (what) {
            case 0: return now.towns();
            case 1: return now.posts();
            case 2: return now.walkers();
            case 3: return now.hour();
            case 4: return now.years();
            case 5: return now.roads().howMany();
            case 6: return now.retiredCount();
            case 7: return now.comeCount();
            case 8: return tellings.held();
            case 9: return sightings.held();
            case 10: return undone.held();
            case 11: return kept.held();
            case 12: return text.length();
            default: return BAD;
        }
    }

    private static boolean hasBit(int bits, int i) {
        return (bits >> i & 1) == 1;
    }

    /** Numbers in rows; outside it reads NONE and writes nothing. */
    private static final class Grid {
        private final int columns;
        private final int[] cells;

        Grid(int rows, int columns) {
            this.columns = columns;
            this.cells = new int[Math.max(1, Math.min(rows * columns, LARGEST_GRID))];
        }

        int at(int row, int column) {
            int place = row * columns + column;
            boolean inside = column >= 0 && column < columns && place >= 0 && place < cells.length;
            return inside ? cells[place] : NONE;
        }

        void put(int row, int column, int number) {
            int place = row * columns + column;
            if (column >= 0 && column < columns && place >= 0 && place < cells.length) {
                cells[place] = number;
            }
        }

        void fill(int number) {
            for (int i = 0; i < cells.length; i++) {
                cells[i] = number;
            }
        }

        void become(Grid other) {
            System.arraycopy(other.cells, 0, cells, 0, Math.min(cells.length, other.cells.length));
        }
    }

    /** The towns, the roads between them, and how far each is from each. */
    private static final class Roads {
        private int towns;
        /** MILES of each road, 0 where there is none. */
        private final Grid miles;
        /** MILES of each PATH, NONE where there is no way; right once surveyed. */
        private final Grid paths;

        Roads() {
            towns = TOWNS_UNTOLD;
            miles = new Grid(MOST_TOWNS, MOST_TOWNS);
            paths = new Grid(MOST_TOWNS, MOST_TOWNS);
        }

        void become(Roads other) {
            towns = other.towns;
            miles.become(other.miles);
            paths.become(other.paths);
        }

        void clear(int howManyTowns) {
            towns = Math.max(0, Math.min(howManyTowns, MOST_TOWNS));
            miles.fill(0);
        }

        int towns() {
            return towns;
        }

        void change(int a, int b, int length) {
            set(a, b, length);
            survey();
        }

        void set(int a, int b, int length) {
            miles.put(a, b, length);
            miles.put(b, a, length);
        }

        void survey() {
            for (int a = 0; a < towns; a++) {
                for (int b = 0; b < towns; b++) {
                    int road = miles.at(a, b);
                    paths.put(a, b, a == b ? 0 : road > 0 ? road : NONE);
                }
            }
            for (int via = 0; via < towns; via++) {
                for (int a = 0; a < towns; a++) {
                    for (int b = 0; b < towns; b++) {
                        shorten(a, via, b);
                    }
                }
            }
        }

        private void shorten(int a, int via, int b) {
            int there = paths.at(a, via);
            int on = paths.at(via, b);
            int known = paths.at(a, b);
            if (there != NONE && on != NONE && (known == NONE || there + on < known)) {
                paths.put(a, b, there + on);
            }
        }

        int between(int a, int b) {
            return miles.at(a, b);
        }

        int pathMiles(int from, int to) {
            return paths.at(from, to);
        }

        int firstStep(int from, int to) {
            int whole = paths.at(from, to);
            if (from == to || whole == NONE) {
                return NONE;
            }
            for (int t = 0; t < towns; t++) {
                int road = miles.at(from, t);
                int rest = paths.at(t, to);
                if (road > 0 && rest != NONE && road + rest == whole) {
                    return t;
                }
            }
            return NONE;
        }

        int townBehind(int town) {
            return town + 1 < towns ? town + 1 : 0;
        }

        /** The next town behind one to which a road leads from a spot: at last that one itself. */
        int turned(int spot, int town) {
            int t = town;
            for (int i = 0; i < towns; i++) {
                t = t + 1 < towns ? t + 1 : 0;
                if (miles.at(spot, t) > 0) {
                    return t;
                }
            }
            return NONE;
        }

        int nearest(int spot) {
            int best = NONE;
            int fewest = 0;
            for (int t = 0; t < towns; t++) {
                int road = miles.at(spot, t);
                if (road > 0 && (best == NONE || road < fewest)) {
                    best = t;
                    fewest = road;
                }
            }
            return best;
        }

        int howMany() {
            int roads = 0;
            for (int a = 0; a < towns; a++) {
                for (int b = a + 1; b < towns; b++) {
                    if (miles.at(a, b) > 0) {
                        roads++;
                    }
                }
            }
            return roads;
        }

        int milesOfAll() {
            int all = 0;
            for (int a = 0; a < towns; a++) {
                for (int b = a + 1; b < towns; b++) {
                    all += miles.at(a, b);
                }
            }
            return all;
        }
    }

    /** All that acts change: roads, posts, walkers, the hour, the years. */
    private static final class Yard {
        private static final int KIND = 0, TOWN = 1, AGE = 2;
        private static final int PLACE = 0, GOAL = 1;
        /** More than a text may tell: posts are tried in towns where none stands. */
        private static final int POST_ROWS = 8;

        private final Roads roads;
        private final Grid post;
        private final Grid arms;
        private final Grid armMiles;
        private final Grid walker;
        private int posts;
        private int walkers;
        private int hour;
        private int years;
        /** Posts (bits) that are turned once more behind their own turns. */
        private int twisted;

        Yard() {
            roads = new Roads();
            post = new Grid(POST_ROWS, 3);
            arms = new Grid(POST_ROWS, MOST_TOWNS);
            armMiles = new Grid(POST_ROWS, MOST_TOWNS);
            walker = new Grid(MOST_WALKERS, 2);
        }

        void become(Yard other) {
            roads.become(other.roads);
            post.become(other.post);
            arms.become(other.arms);
            armMiles.become(other.armMiles);
            walker.become(other.walker);
            posts = other.posts;
            walkers = other.walkers;
            hour = other.hour;
            years = other.years;
            twisted = other.twisted;
        }

        void clear() {
            roads.clear(TOWNS_UNTOLD);
            posts = 0;
            walkers = 0;
            hour = 0;
            years = 0;
            twisted = 0;
        }

        boolean tellTowns(int n) {
            if (n < 2 || n > MOST_TOWNS) {
                return false;
            }
            roads.clear(n);
            return true;
        }

        boolean tellRoad(int a, int b, int length) {
            if (!areTwoTowns(a, b) || length < 1 || length > MOST_ROAD) {
                return false;
            }
            roads.set(a, b, length);
            return true;
        }

        boolean tellPost(int kind, int town, int age) {
            boolean so = kind >= 0 && kind < KINDS && isTown(town) && age >= 0 && age <= OLDEST_AT_FIRST;
            if (!so || posts >= MOST_POSTS) {
                return false;
            }
            post.put(posts, KIND, kind);
            post.put(posts, TOWN, town);
            post.put(posts, AGE, age);
            posts++;
            return true;
        }

        boolean tellWalker(int place, int goal) {
            if (!areTwoTowns(place, goal) || walkers >= MOST_WALKERS) {
                return false;
            }
            walker.put(walkers, PLACE, place);
            walker.put(walkers, GOAL, goal);
            walkers++;
            return true;
        }

        void paintAll() {
            roads.survey();
            for (int p = 0; p < posts; p++) {
                paintPost(p);
            }
        }

        Roads roads() {
            return roads;
        }

        int towns() {
            return roads.towns();
        }

        int posts() {
            return posts;
        }

        int walkers() {
            return walkers;
        }

        int hour() {
            return hour;
        }

        int years() {
            return years;
        }

        boolean isTown(int t) {
            return t >= 0 && t < roads.towns();
        }

        boolean areTwoTowns(int a, int b) {
            return isTown(a) && isTown(b) && a != b;
        }

        boolean isPost(int p) {
            return p >= 0 && p < posts;
        }

        boolean isWalker(int w) {
            return w >= 0 && w < walkers;
        }

        int kindOf(int p) {
            return post.at(p, KIND);
        }

        /** NONE of one that is retired. */
        int townOf(int p) {
            return post.at(p, TOWN);
        }

        int ageOf(int p) {
            return post.at(p, AGE);
        }

        int armOf(int p, int y) {
            return arms.at(p, y);
        }

        int milesOf(int p, int y) {
            return armMiles.at(p, y);
        }

        int placeOf(int w) {
            return walker.at(w, PLACE);
        }

        int goalOf(int w) {
            return walker.at(w, GOAL);
        }

        boolean hasCome(int w) {
            return walker.at(w, PLACE) == walker.at(w, GOAL);
        }

        boolean isRetired(int p) {
            return post.at(p, TOWN) == NONE;
        }

        boolean noneRetired(int set) {
            for (int p = 0; p < posts; p++) {
                if (hasBit(set, p) && isRetired(p)) {
                    return false;
                }
            }
            return true;
        }

        int comeCount() {
            int come = 0;
            for (int w = 0; w < walkers; w++) {
                if (hasCome(w)) {
                    come++;
                }
            }
            return come;
        }

        int retiredCount() {
            int retired = 0;
            for (int p = 0; p < posts; p++) {
                if (isRetired(p)) {
                    retired++;
                }
            }
            return retired;
        }

        int lowestPostIn(int town) {
            for (int p = 0; p < posts; p++) {
                if (post.at(p, TOWN) == town) {
                    return p;
                }
            }
            return NONE;
        }

        int pointing(int p, int y) {
            int spot = post.at(p, TOWN);
            int to = arms.at(p, y);
            int turns = turnsOf(p);
            for (int i = 0; i < turns && to != NONE; i++) {
                to = roads.turned(spot, to);
            }
            return to;
        }

        private int turnsOf(int p) {
            int once = hasBit(twisted, p) ? 1 : 0;
            switch (post.at(p, KIND)) {
                case WORN: return once + (post.at(p, AGE) >= WORN_AT ? 1 : 0);
                case LYING: return once + 1;
                case DRUNK: return once + (hour % 2 == 1 ? 2 : 0);
                default: return once;
            }
        }

        void passHours(int n) {
            for (int i = 0; i < n; i++) {
                for (int w = 0; w < walkers; w++) {
                    int place = walker.at(w, PLACE);
                    int goal = walker.at(w, GOAL);
                    if (place != goal) {
                        walker.put(w, PLACE, stepFrom(place, goal));
                    }
                }
                hour++;
            }
        }

        private int stepFrom(int place, int goal) {
            int p = lowestPostIn(place);
            int to = p == NONE ? roads.nearest(place) : pointing(p, goal);
            return to != NONE && roads.between(place, to) > 0 ? to : place;
        }

        int passYear() {
            years++;
            int retired = 0;
            for (int p = 0; p < posts; p++) {
                if (!isRetired(p)) {
                    int age = post.at(p, AGE) + 1;
                    post.put(p, AGE, age);
                    if (age >= RETIRED_AT) {
                        retirePost(p);
                        retired++;
                    }
                }
            }
            return retired;
        }

        /** How many ARMS it has then. */
        int paintPost(int p) {
            int spot = post.at(p, TOWN);
            int painted = 0;
            for (int y = 0; y < MOST_TOWNS; y++) {
                int step = isTown(y) ? roads.firstStep(spot, y) : NONE;
                arms.put(p, y, step);
                armMiles.put(p, y, step == NONE ? NONE : roads.pathMiles(spot, y));
                if (step != NONE) {
                    painted++;
                }
            }
            return painted;
        }

        void movePost(int p, int town) {
            post.put(p, TOWN, town);
        }

        void retirePost(int p) {
            post.put(p, TOWN, NONE);
            for (int y = 0; y < MOST_TOWNS; y++) {
                arms.put(p, y, NONE);
                armMiles.put(p, y, NONE);
            }
        }

        void turnInto(int p, int kind) {
            post.put(p, KIND, kind);
        }

        void twist(int set) {
            twisted = set;
        }

        void dropPosts() {
            posts = 0;
        }

        void standPlain(int town) {
            if (posts < POST_ROWS) {
                post.put(posts, KIND, PLAIN);
                post.put(posts, TOWN, town);
                post.put(posts, AGE, 0);
                paintPost(posts);
                posts++;
            }
        }
    }

    /** Yards set aside, the latest given back first; when it is full the oldest gives way. */
    private static final class Shelf {
        private final Yard[] yards;
        private int held;
        private int free;

        Shelf(int places) {
            yards = new Yard[Math.max(1, Math.min(places, MOST_UNDONE))];
            for (int i = 0; i < yards.length; i++) {
                yards[i] = new Yard();
            }
        }

        int held() {
            return held;
        }

        void empty() {
            held = 0;
        }

        void setAside(Yard yard) {
            Yard place = free >= 0 && free < yards.length ? yards[free] : null;
            if (place != null) {
                place.become(yard);
                free = free + 1 < yards.length ? free + 1 : 0;
                held = Math.min(held + 1, yards.length);
            }
        }

        boolean giveBack(Yard yard) {
            int latest = free > 0 ? free - 1 : yards.length - 1;
            Yard place = held > 0 && latest >= 0 && latest < yards.length ? yards[latest] : null;
            if (place == null) {
                return false;
            }
            yard.become(place);
            free = latest;
            held--;
            return true;
        }
    }

    /** What was told, or seen: three numbers each. */
    private static final class Notes {
        private final Grid notes;
        private int held;

        Notes() {
            notes = new Grid(MOST_NOTES, 3);
        }

        int held() {
            return held;
        }

        int number(int i, int column) {
            return notes.at(i, column);
        }

        int add(int first, int second, int third) {
            if (held >= MOST_NOTES) {
                return FULL;
            }
            notes.put(held, 0, first);
            notes.put(held, 1, second);
            notes.put(held, 2, third);
            held++;
            return held;
        }

        int empty() {
            int before = held;
            held = 0;
            return before;
        }
    }

    /** THE TEXT, and how it is read. */
    private static final class Letters {
        private final Grid letters;
        private final Grid numbers;
        private int length;
        private int place;

        Letters() {
            letters = new Grid(1, MOST_LETTERS);
            numbers = new Grid(1, MOST_NUMBERS);
        }

        int length() {
            return length;
        }

        int append(int letter) {
            if (length >= MOST_LETTERS) {
                return FULL;
            }
            letters.put(0, length, letter);
            length++;
            return length;
        }

        int empty() {
            int before = length;
            length = 0;
            return before;
        }

        /** The place of the first fault, or NONE: the yard is what was told ahead of it. */
        int readInto(Yard yard) {
            yard.clear();
            place = 0;
            for (int items = 0; items < MOST_LETTERS && place < length; items++) {
                int start = place;
                if (!readItem(yard, items == 0)) {
                    return start;
                }
            }
            return NONE;
        }

        private boolean readItem(Yard yard, boolean isFirst) {
            int letter = letterHere();
            place++;
            if (!readNumbers(numbersBehind(letter))) {
                return false;
            }
            int a = numbers.at(0, 0);
            int b = numbers.at(0, 1);
            int c = numbers.at(0, 2);
            switch (letter) {
                case 'n': return isFirst && yard.tellTowns(a);
                case 'r': return yard.tellRoad(a, b, c);
                case 'p': return yard.tellPost(a, b, c);
                case 'w': return yard.tellWalker(a, b);
                default: return false;
            }
        }

        private static int numbersBehind(int letter) {
            switch (letter) {
                case 'n': return 1;
                case 'r': return 3;
                case 'p': return 3;
                case 'w': return 2;
                default: return 0;
            }
        }

        private boolean readNumbers(int howMany) {
            for (int i = 0; i < howMany; i++) {
                int number = readFigure();
                if (number == NONE) {
                    return false;
                }
                int second = readFigure();
                numbers.put(0, i, second == NONE ? number : number * 10 + second);
                if (letterHere() != (i + 1 < howMany ? ',' : ';')) {
                    return false;
                }
                place++;
            }
            return true;
        }

        private int readFigure() {
            int letter = letterHere();
            if (letter < '0' || letter > '9') {
                return NONE;
            }
            place++;
            return letter - '0';
        }

        private int letterHere() {
            return place < length ? letters.at(0, place) : NONE;
        }
    }
}
