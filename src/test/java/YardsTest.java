/** Promises 1 to 9: a new object, THE TEXT, laying, and what stands. */
public final class YardsTest {
    private static final int BAD = SignpostYard.BAD, NO = SignpostYard.NO;
    private static final int FULL = SignpostYard.FULL, NONE = SignpostYard.NONE;
    private static final int LOW = Integer.MIN_VALUE, HIGH = Integer.MAX_VALUE;
    /** Town 0 has roads to 1, 3 and 4, and behind 1 there is 2; a post of each kind in 0, a WORN one twice. */
    private static final String STAR =
        "n5;r0,1,1;r0,3,1;r0,4,1;r1,2,1;p0,0,0;p1,0,39;p1,0,40;p2,0,0;p3,0,0;w1,2;";

    public static void main(String[] args) {
        newObject();
        write();
        wipe();
        faultOfTowns();
        faultOfRoads();
        faultOfPosts();
        faultOfWalkers();
        faultOfShape();
        lay();
        layForgets();
        layAfterTrials();
        layRefused();
        layTellsPaths();
        road();
        post();
        armAndMiles();
        pointing();
        pointingByRoadsAsTheyAre();
        walker();
        Due.end();
    }

    private static void newObject() {
        SignpostYard x = new SignpostYard();
        Due.is("BAD", SignpostYard.BAD, -1);
        Due.is("NO", SignpostYard.NO, -2);
        Due.is("FULL", SignpostYard.FULL, -3);
        Due.is("NONE", SignpostYard.NONE, -4);
        int[] counts = {6, 5, 4, 0, 0, 7, 0, 0, 0, 0, 0, 0, 0};
        for (int i = 0; i < counts.length; i++) {
            Due.is("new: count(" + i + ")", x.count(i), counts[i]);
        }
        int[][] roads = {{0, 1, 2}, {1, 2, 3}, {2, 3, 1}, {3, 4, 4}, {4, 5, 2}, {5, 0, 6}, {1, 4, 5}};
        for (int[] r : roads) {
            Due.is("new: road", x.road(r[0], r[1]), r[2]);
        }
        int[][] posts = {{0, 0, 10}, {1, 1, 45}, {2, 4, 30}, {3, 2, 20}, {0, 5, 59}};
        int[][] walkers = {{0, 3}, {5, 2}, {2, 0}, {4, 1}};
        for (int p = 0; p < 5; p++) {
            for (int i = 0; i < 3; i++) {
                Due.is("new: post(" + p + ", " + i + ")", x.post(p, i), posts[p][i]);
            }
        }
        for (int w = 0; w < 4; w++) {
            Due.is("new: walker(" + w + ", 0)", x.walker(w, 0), walkers[w][0]);
            Due.is("new: walker(" + w + ", 1)", x.walker(w, 1), walkers[w][1]);
        }
        Due.is("new: all is painted", x.arm(4, 3, 1), 6);
        Due.is("new: fault()", x.fault(), NONE);
        Due.is("new: lay()", x.lay(), NO);
        Due.is("new: undo()", x.undo(), NO);
        Due.is("new: back()", x.back(), NO);
    }

    private static void write() {
        SignpostYard x = new SignpostYard();
        Due.is("write(32)", x.write(32), 1);
        Due.is("write(126)", x.write(126), 2);
        Due.is("write(31)", x.write(31), BAD);
        Due.is("write(127)", x.write(127), BAD);
        Due.is("write(lowest)", x.write(LOW), BAD);
        Due.is("write(highest)", x.write(HIGH), BAD);
        Due.is("written", x.count(12), 2);
        for (int i = 3; i <= 200; i++) {
            Due.is("write('n')", x.write('n'), i);
        }
        Due.is("write to a full text", x.write('n'), FULL);
        Due.is("write(31) to a full text", x.write(31), BAD);
        Due.is("full", x.count(12), 200);
    }

    private static void wipe() {
        SignpostYard x = Due.written("n6;p0,0,0;w0,1;");
        Due.is("wipe()", x.wipe(), 15);
        Due.is("wipe() again", x.wipe(), 0);
        Due.is("wiped", x.count(12), 0);
        Due.is("lay() wiped", x.lay(), NO);
        Due.is("write behind wipe", x.write('n'), 1);
        Due.is("what stands is not wiped", x.count(1), 5);
    }

    private static void fault(String text, int due) {
        SignpostYard x = Due.written(text);
        Due.is("fault() of " + text, x.fault(), due);
        Due.is("fault() of " + text + " leaves it", x.count(12), text.length());
        Due.is("fault() of " + text + " lays nothing", x.count(0), 6);
    }

    private static void faultOfTowns() {
        fault("", NONE);
        fault("n2;", NONE);
        fault("n8;", NONE);
        fault("n08;", NONE);
        fault("n1;", 0);
        fault("n0;", 0);
        fault("n9;", 0);
        fault("n10;", 0);
        fault("n6;n6;", 3);
        fault("r0,1,1;n6;", 7);
    }

    private static void faultOfRoads() {
        fault("r0,5,9;", NONE);
        fault("r00,05,09;", NONE);
        fault("r0,6,1;", 0);
        fault("r6,0,1;", 0);
        fault("n8;r0,7,1;", NONE);
        fault("n8;r8,7,1;", 3);
        fault("n2;r0,1,1;r1,2,1;", 10);
        fault("r3,3,1;", 0);
        fault("r0,1,0;", 0);
        fault("r0,1,10;", 0);
        fault("r0,1,1;r1,0,2;r0,1,9;", NONE);
        fault("r0,1;", 0);
        fault("r0,1,1,1;", 0);
    }

    private static void faultOfPosts() {
        fault("p0,0,0;p3,5,59;", NONE);
        fault("p4,0,0;", 0);
        fault("p0,6,0;", 0);
        fault("p0,0,60;", 0);
        fault("p0,0;", 0);
        fault("p0,0,0,0;", 0);
        fault("p0,0,0;p0,0,0;p0,0,0;p0,0,0;p0,0,0;p0,0,0;", NONE);
        fault("p0,0,0;p0,0,0;p0,0,0;p0,0,0;p0,0,0;p0,0,0;p0,0,0;", 42);
    }

    private static void faultOfWalkers() {
        fault("w0,5;w5,0;", NONE);
        fault("w0,6;", 0);
        fault("w6,0;", 0);
        fault("w2,2;", 0);
        fault("w0;", 0);
        fault("w0,1,2;", 0);
        fault("w0,1;w0,1;w0,1;w0,1;w0,1;", NONE);
        fault("w0,1;w0,1;w0,1;w0,1;w0,1;w0,1;", 25);
    }

    private static void faultOfShape() {
        fault(";", 0);
        fault("w0,1;;", 5);
        fault("x0,1;", 0);
        fault("W0,1;", 0);
        fault("w0,1", 0);
        fault("w0,1;r0,1,", 5);
        fault("w0,1;p", 5);
        fault("w0,1;w", 5);
        fault("w,1;", 0);
        fault("w0,;", 0);
        fault("w0,001;", 0);
        fault("w0,1;w0,1 ;", 5);
        fault(" w0,1;", 0);
        fault("w0, 1;", 0);
        fault("w0;1;", 0);
        fault("w0,1,", 0);
        fault("w-0,1;", 0);
        fault("n6;w0,1;p0,0,0;q;r0,1,1;", 15);
        fault("n6", 0);
        fault("n;", 0);
        fault("n6,", 0);
        fault("n/;", 0);
        fault("n:;", 0);
    }

    private static void lay() {
        SignpostYard x = Due.written("n3;p2,1,7;w0,1;p3,2,8;r0,1,4;r1,0,5;r0,1,6;w2,0;");
        Due.is("lay()", x.lay(), 2);
        int[] counts = {3, 2, 2, 0, 0, 1, 0, 0, 0, 0, 0, 0, 48};
        for (int i = 0; i < counts.length; i++) {
            Due.is("laid: count(" + i + ")", x.count(i), counts[i]);
        }
        Due.is("of several roads the last one", x.road(1, 0), 6);
        Due.is("painted by roads told behind it", x.arm(0, 0, 0), 0);
        Due.is("post(0, 0)", x.post(0, 0), 2);
        Due.is("post(1, 2)", x.post(1, 2), 8);
        Due.is("walker(1, 0)", x.walker(1, 0), 2);
        Due.is("six towns without n", Due.laid("p0,5,0;w0,5;").count(0), 6);
        Due.is("eight towns", Due.laid("n8;p0,7,0;w0,7;").count(0), 8);
        Due.is("lay() twice", x.lay(), 2);
    }

    private static void layForgets() {
        SignpostYard x = Due.written("p0,1,0;w0,1;");
        x.pass(3);
        x.year();
        x.keep();
        x.told(1, 1, 1);
        x.seen(0, 1, 1);
        Due.is("lay()", x.lay(), 1);
        int[] counts = {6, 1, 1, 0, 0, 0, 0, 0, 0, 0, 0, 0, 12};
        for (int i = 0; i < counts.length; i++) {
            Due.is("laid anew: count(" + i + ")", x.count(i), counts[i]);
        }
        Due.is("undo() of what was ahead of it", x.undo(), NO);
        Due.is("back() to what was ahead of it", x.back(), NO);
        Due.is("stood() laid anew", x.stood(), 63);
        Due.is("kinds() laid anew", x.kinds(0), 15);
    }

    /** What was tried ahead of it leaves nothing in what is laid. */
    private static void layAfterTrials() {
        SignpostYard x = new SignpostYard();
        x.pass(3);
        x.year();
        Due.write(x, "p0,1,0;w0,1;");
        x.likely(3, 5, 0);
        Due.is("lay()", x.lay(), 1);
        int[] counts = {6, 1, 1, 0, 0, 0, 0, 0, 0, 0, 0, 0, 12};
        for (int i = 0; i < counts.length; i++) {
            Due.is("laid behind trials: count(" + i + ")", x.count(i), counts[i]);
        }
        Due.is("no road is left", x.road(0, 1), NONE);
        Due.is("no way is left", x.far(0, 1), NONE);
        x.wipe();
        Due.write(x, "n3;r0,1,1;r0,2,1;p0,0,0;w0,1;");
        x.likely(0, 10, 0);
        x.lay();
        Due.is("not turned", x.arm(0, 1, 2), 1);
        x.likely(0, 10, 0);
        x.lay();
        Due.is("not turned when laid again", x.arm(0, 1, 2), 1);
        Due.is("it comes", x.comes(0), 1);
    }

    private static void layRefused() {
        String[] texts = {"", "n4;", "p0,0,0;", "w0,1;", "p0,0,0;w0,1;x", "p0,0,0;w0,0;", "n4;p0,0,0;w0,4;"};
        for (String text : texts) {
            SignpostYard x = Due.written(text);
            x.pass(2);
            x.keep();
            x.told(0, 1, 2);
            Due.is("lay() of " + text, x.lay(), NO);
            int[] counts = {6, 5, 4, 2, 0, 7, 0, 0, 1, 0, 1, 1, text.length()};
            for (int i = 0; i < counts.length; i++) {
                Due.is("refused " + text + ": count(" + i + ")", x.count(i), counts[i]);
            }
            Due.is("refused " + text + ": arm(0, 4, 0)", x.arm(0, 4, 0), 1);
            Due.is("refused " + text + ": walker(1, 1)", x.walker(1, 1), 2);
        }
    }

    /** Fewest miles, not fewest roads; of several the lowest next town. */
    private static void layTellsPaths() {
        SignpostYard x = Due.laid("n4;r0,3,9;r0,2,1;r2,1,2;r1,3,3;p0,0,0;w0,3;");
        Due.is("the long way of few miles", x.arm(0, 3, 0), 2);
        Due.is("its miles", x.arm(0, 3, 1), 6);
        x = Due.laid("n4;r0,1,3;r0,2,1;r1,3,1;r2,3,3;p0,0,0;p0,3,0;w0,3;");
        Due.is("of two ways alike the lower town", x.arm(0, 3, 0), 1);
        Due.is("and back", x.arm(1, 0, 0), 1);
        x = Due.laid("n4;r0,3,4;r0,1,2;r1,3,2;p0,0,0;w0,3;");
        Due.is("the lower town, not the shorter way", x.arm(0, 3, 0), 1);
        x = Due.laid("n4;r0,3,4;r0,2,1;r2,1,1;r1,3,2;p0,0,0;w0,3;");
        Due.is("the lower one of the next towns, not of later ones", x.arm(0, 3, 0), 2);
    }

    private static void road() {
        SignpostYard x = new SignpostYard();
        Due.is("road(0, 1)", x.road(0, 1), 2);
        Due.is("road(1, 0)", x.road(1, 0), 2);
        Due.is("road(0, 2)", x.road(0, 2), NONE);
        Due.is("road(0, 5)", x.road(0, 5), 6);
        Due.is("road alike", x.road(2, 2), BAD);
        Due.is("road to no town", x.road(0, 6), BAD);
        Due.is("road from no town", x.road(-1, 0), BAD);
        Due.is("road(lowest, highest)", x.road(LOW, HIGH), BAD);
        Due.is("road(0, 3) of 3", Due.laid("n3;p0,0,0;w0,1;").road(0, 3), BAD);
        Due.is("road(0, 7) of 8", Due.laid("n8;r7,0,3;p0,0,0;w0,1;").road(0, 7), 3);
    }

    private static void post() {
        SignpostYard x = new SignpostYard();
        Due.is("post(2, 0)", x.post(2, 0), 2);
        Due.is("post(2, 1)", x.post(2, 1), 4);
        Due.is("post(2, 2)", x.post(2, 2), 30);
        Due.is("post(5, 0)", x.post(5, 0), BAD);
        Due.is("post(-1, 0)", x.post(-1, 0), BAD);
        Due.is("post(0, 3)", x.post(0, 3), BAD);
        Due.is("post(0, -1)", x.post(0, -1), BAD);
        Due.is("post(highest, lowest)", x.post(HIGH, LOW), BAD);
        x.retire(2);
        Due.is("kind of a retired one", x.post(2, 0), 2);
        Due.is("town of a retired one", x.post(2, 1), NONE);
        Due.is("age of a retired one", x.post(2, 2), 30);
        Due.is("post(2, 3) retired", x.post(2, 3), BAD);
    }

    private static void armAndMiles() {
        SignpostYard x = Due.laid(STAR);
        Due.is("arm(0, 2, 0)", x.arm(0, 2, 0), 1);
        Due.is("arm(0, 2, 1)", x.arm(0, 2, 1), 2);
        Due.is("arm(3, 2, 0) of a lying one", x.arm(3, 2, 0), 1);
        for (int what = 0; what < 3; what++) {
            Due.is("arm for where it stands", x.arm(0, 0, what), NONE);
        }
        Due.is("arm(5, 0, 0)", x.arm(5, 0, 0), BAD);
        Due.is("arm(-1, 0, 0)", x.arm(-1, 0, 0), BAD);
        Due.is("arm(0, 5, 0)", x.arm(0, 5, 0), BAD);
        Due.is("arm(0, -1, 0)", x.arm(0, -1, 0), BAD);
        Due.is("arm(0, 0, 3) ahead of NONE", x.arm(0, 0, 3), BAD);
        Due.is("arm(0, 0, -1)", x.arm(0, 0, -1), BAD);
        Due.is("arm(lowest)", x.arm(LOW, HIGH, LOW), BAD);
        x.lays(1, 2, 0);
        Due.is("an arm stays when a road is closed", x.arm(0, 2, 0), 1);
        Due.is("its miles stay", x.arm(0, 2, 1), 2);
        x.paint(0);
        for (int what = 0; what < 3; what++) {
            Due.is("arm where no way leads", x.arm(0, 2, what), NONE);
        }
        x.retire(3);
        for (int what = 0; what < 3; what++) {
            Due.is("arm of a retired one", x.arm(3, 4, what), NONE);
        }
        x.move(0, 3);
        Due.is("an arm for town 0", x.arm(0, 4, 0), 4);
        x.paint(0);
        Due.is("an arm for town 0, painted", x.arm(0, 0, 0), 0);
        x.retire(0);
        for (int what = 0; what < 3; what++) {
            Due.is("arm of a retired one for town 0", x.arm(0, 0, what), NONE);
        }
    }

    private static void pointing() {
        SignpostYard x = Due.laid(STAR);
        int[] even = {1, 1, 3, 3, 1};
        int[] uneven = {1, 1, 3, 3, 4};
        for (int hour = 0; hour < 4; hour++) {
            for (int p = 0; p < 5; p++) {
                int due = hour % 2 == 0 ? even[p] : uneven[p];
                Due.is("hour " + hour + ": arm(" + p + ", 2, 2)", x.arm(p, 2, 2), due);
            }
            x.pass(1);
        }
        Due.is("behind the last town the first", x.arm(3, 4, 2), 1);
        x.pass(1);
        Due.is("turned twice round the last town", x.arm(4, 4, 2), 3);
        x.year();
        Due.is("a worn one that is 40 now", x.arm(1, 2, 2), 3);
    }

    private static void pointingByRoadsAsTheyAre() {
        SignpostYard x = Due.laid(STAR);
        x.lays(0, 3, 0);
        Due.is("turned past a closed road", x.arm(3, 2, 2), 4);
        x.lays(0, 2, 9);
        Due.is("turned to a new road", x.arm(3, 2, 2), 2);
        x.lays(0, 2, 0);
        x.lays(0, 4, 0);
        Due.is("that one itself", x.arm(3, 2, 2), 1);
        Due.is("to the only one", x.arm(3, 4, 2), 1);
        x.lays(0, 1, 0);
        Due.is("turned nowhere", x.arm(3, 2, 2), NONE);
        Due.is("a plain one where no road leads", x.arm(0, 2, 2), 1);
        Due.is("a drunk one, even", x.arm(4, 2, 2), 1);
        x.pass(1);
        Due.is("a drunk one, turned nowhere", x.arm(4, 2, 2), NONE);
        x.lays(0, 3, 2);
        Due.is("not that one, if there is another", x.arm(3, 2, 2), 3);
        Due.is("a drunk one, twice to the only one", x.arm(4, 2, 2), 3);
        x.move(3, 1);
        Due.is("turned from where it stands now", x.arm(3, 2, 2), 2);
        x.move(0, 1);
        Due.is("it points to where it stands", x.arm(0, 2, 2), 1);
    }

    private static void walker() {
        SignpostYard x = Due.laid("n3;r0,1,1;r1,2,1;p0,2,0;w0,1;w1,2;");
        Due.is("walker(1, 0)", x.walker(1, 0), 1);
        Due.is("walker(1, 1)", x.walker(1, 1), 2);
        Due.is("walker(1, 2)", x.walker(1, 2), 0);
        x.pass(1);
        Due.is("walker(0, 0) has come", x.walker(0, 0), 1);
        Due.is("walker(0, 1) has come", x.walker(0, 1), 1);
        Due.is("walker(0, 2) has come", x.walker(0, 2), 1);
        Due.is("walker(1, 2) has not", x.walker(1, 2), 0);
        Due.is("walker(2, 0)", x.walker(2, 0), BAD);
        Due.is("walker(-1, 0)", x.walker(-1, 0), BAD);
        Due.is("walker(0, 3)", x.walker(0, 3), BAD);
        Due.is("walker(0, -1)", x.walker(0, -1), BAD);
        Due.is("walker(highest, lowest)", x.walker(HIGH, LOW), BAD);
    }
}
