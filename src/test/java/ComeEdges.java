/** Edges of promises 17 to 23: COMES, TRAIL, LOST, HELPS, PAINT, COVER, FAR. */
final class ComeEdges {
    private static final int BAD = SignpostYard.BAD, NONE = SignpostYard.NONE;
    private static final int LOW = Integer.MIN_VALUE, HIGH = Integer.MAX_VALUE;
    /** The walker 3 comes behind thirteen hours, of fourteen that can be. */
    private static final String LONG = "n8;r5,4,7;r4,0,3;r3,5,4;r0,1,2;r0,6,7;r2,1,6;r4,7,4;r4,6,9;r2,3,6;r0,2,8;"
        + "p2,0,0;p2,3,0;p3,6,0;p3,1,0;p3,4,0;p3,1,0;w0,7;w1,7;w2,7;w3,7;w4,7;";

    private ComeEdges() {
    }

    static void all() {
        comesBehindNone();
        comesBehindMany();
        comesNever();
        comesFirst();
        comesOfWhoThereIs();
        comesBeyondTheLastHour();
        trailNowAndLast();
        trailTooFewOrMany();
        trailOfWhoThereIs();
        trailBeyondTheLastHour();
        lostNone();
        lostAll();
        lostAsBits();
        helpsNowhere();
        helpsWhereOneRetired();
        helpsLowest();
        helpsLast();
        helpsPaintedNow();
        helpsBesideSix();
        helpsOnlyTold();
        paintsNone();
        paintsAll();
        paintsFewest();
        paintsLowest();
        paintsMost();
        paintsNotRetired();
        paintsOnlyTold();
        coverOfNone();
        coverOfAllGone();
        coverNever();
        coverFewest();
        coverLowest();
        coverLast();
        coverOfAllTowns();
        coverOnlyTold();
        farToTheSame();
        farNoWay();
        farMost();
        farOfWhatThereIs();
        nothingIsDone();
    }

    // ---- promise 17

    private static void comesBehindNone() {
        Edge.of(17, "behind how many HOURS (0 to 40) a WALKER is where it would be first");
        SignpostYard x = Due.laid("n2;r0,1,1;p0,0,0;w0,1;w1,0;");
        Due.is("comes(0)", x.comes(0), 1);
        x.pass(1);
        Due.is("comes(0) being there", x.comes(0), 0);
        Due.is("comes(1) being there", x.comes(1), 0);
    }

    private static void comesBehindMany() {
        Edge.of(17, "behind how many HOURS (0 to 40) a WALKER is where it would be first");
        SignpostYard x = Due.laid(LONG);
        Due.is("comes(3)", x.comes(3), 13);
        x.pass(12);
        Due.is("comes(3) behind 12", x.comes(3), 1);
        x.pass(1);
        Due.is("comes(3) behind 13", x.comes(3), 0);
        Due.is("walker(3, 2)", x.walker(3, 2), 1);
        x = Due.laid("n8;r0,1,1;r1,2,1;r2,3,1;r3,4,1;r4,5,1;r5,6,1;r6,7,1;"
            + "p0,1,0;p0,2,0;p0,3,0;p0,4,0;p0,5,0;p0,6,0;w0,7;");
        Due.is("through all towns", x.comes(0), 7);
    }

    private static void comesNever() {
        Edge.of(17, "COMES. NONE; BAD.");
        SignpostYard x = Due.laid("n3;r0,1,1;p0,0,0;w0,2;w2,0;");
        Due.is("comes(0) to and fro", x.comes(0), NONE);
        Due.is("comes(1) without a road", x.comes(1), NONE);
    }

    private static void comesFirst() {
        Edge.of(17, "is where it would be first");
        SignpostYard x = Due.laid("n3;r0,1,1;r1,2,1;p0,1,0;w0,2;w0,1;");
        Due.is("comes(0)", x.comes(0), 2);
        Due.is("comes(1)", x.comes(1), 1);
        Due.is("it stays there", x.trail(1, 40), 1);
    }

    private static void comesOfWhoThereIs() {
        Edge.of(17, "(TOWNS, POSTS, WALKERS: such as there are)");
        SignpostYard x = new SignpostYard();
        int[] bad = {4, -1, 5, LOW, HIGH};
        for (int w : bad) {
            Due.is("comes(" + w + ")", x.comes(w), BAD);
        }
        SignpostYard five = Due.laid("n2;r0,1,1;p0,0,0;w0,1;w0,1;w0,1;w0,1;w0,1;");
        Due.is("comes(4) of five", five.comes(4), 1);
        Due.is("comes(5) of five", five.comes(5), BAD);
    }

    private static SignpostYard late(String text) {
        SignpostYard x = Due.laid(text);
        x.lays(0, 1, 0);
        for (int i = 0; i < 49; i++) {
            x.pass(20);
        }
        x.pass(19);
        x.lays(0, 1, 1);
        Due.is("the last hour", x.count(3), 999);
        return x;
    }

    private static void comesBeyondTheLastHour() {
        Edge.of(17, "(beyond the last that may go by, too)");
        SignpostYard x = late("n4;r0,1,1;r1,2,1;r2,3,1;p0,0,0;p0,1,0;p0,2,0;w0,3;");
        Due.is("comes(0)", x.comes(0), 3);
        Due.is("lost()", x.lost(), 0);
        Due.is("the hour stays", x.count(3), 999);
    }

    // ---- promise 18

    private static void trailNowAndLast() {
        Edge.of(18, "where a WALKER is behind k (0 to 40) HOURS");
        SignpostYard x = Due.laid("n2;r0,1,1;p0,0,0;w0,1;");
        Due.is("trail(0, 0)", x.trail(0, 0), 0);
        Due.is("trail(0, 1)", x.trail(0, 1), 1);
        Due.is("trail(0, 40)", x.trail(0, 40), 1);
        x = Due.laid("n3;r0,1,1;p0,2,0;w0,2;");
        Due.is("to and fro, trail(0, 0)", x.trail(0, 0), 0);
        Due.is("to and fro, trail(0, 1)", x.trail(0, 1), 1);
        Due.is("to and fro, trail(0, 39)", x.trail(0, 39), 1);
        Due.is("to and fro, trail(0, 40)", x.trail(0, 40), 0);
    }

    private static void trailTooFewOrMany() {
        Edge.of(18, "where a WALKER is behind k (0 to 40) HOURS");
        SignpostYard x = new SignpostYard();
        int[] bad = {-1, 41, 42, 60, LOW, HIGH};
        for (int k : bad) {
            Due.is("trail(0, " + k + ")", x.trail(0, k), BAD);
        }
    }

    private static void trailOfWhoThereIs() {
        Edge.of(18, "(TOWNS, POSTS, WALKERS: such as there are)");
        SignpostYard x = new SignpostYard();
        int[] bad = {4, -1, 5, LOW, HIGH};
        for (int w : bad) {
            Due.is("trail(" + w + ", 0)", x.trail(w, 0), BAD);
        }
        Due.is("trail(3, 0)", x.trail(3, 0), 4);
    }

    private static void trailBeyondTheLastHour() {
        Edge.of(18, "(beyond the last that may go by, too)");
        SignpostYard x = late("n5;r0,1,1;r0,2,1;r0,3,1;r3,4,1;p3,0,0;w0,1;");
        // uneven: turned twice from 1 to 3; from 3 back by the lowest road; even: as painted
        int[] due = {0, 3, 0, 3, 0};
        for (int k = 0; k < due.length; k++) {
            Due.is("trail(0, " + k + ")", x.trail(0, k), due[k]);
        }
        Due.is("trail(0, 40)", x.trail(0, 40), 0);
        Due.is("trail(0, 41)", x.trail(0, 41), BAD);
    }

    // ---- promise 19

    private static void lostNone() {
        Edge.of(19, "WALKERS (bits) who do not come in 40 HOURS");
        SignpostYard x = Due.laid("n2;r0,1,1;p0,0,0;w0,1;w1,0;w0,1;w1,0;w0,1;");
        Due.is("lost()", x.lost(), 0);
        x.pass(1);
        Due.is("lost() being there", x.lost(), 0);
        x.lays(0, 1, 0);
        Due.is("lost() being there, and no road is left", x.lost(), 0);
    }

    private static void lostAll() {
        Edge.of(19, "WALKERS (bits) who do not come in 40 HOURS");
        SignpostYard x = Due.laid("n2;r0,1,1;p0,0,0;w0,1;w1,0;w0,1;w1,0;w0,1;");
        x.lays(0, 1, 0);
        Due.is("lost()", x.lost(), 31);
        Due.is("lost() of one", Due.laid("n2;p0,0,0;w0,1;").lost(), 1);
    }

    private static void lostAsBits() {
        Edge.of(19, "LOST, as bits");
        SignpostYard x = Due.laid("n3;r0,1,1;p0,0,0;w0,1;w0,2;w1,0;w1,2;w2,0;");
        Due.is("lost()", x.lost(), 26);
        x = Due.laid("n3;r0,1,1;p0,0,0;w0,2;w0,1;w0,1;w0,1;w0,1;");
        Due.is("lost(): the first", x.lost(), 1);
        x = Due.laid("n3;r0,1,1;p0,0,0;w0,1;w0,1;w0,1;w0,1;w0,2;");
        Due.is("lost(): the last", x.lost(), 16);
        Due.is("lost(): the long way is not", Due.laid(LONG).lost() & 8, 0);
    }

    // ---- promise 20

    private static void helps(SignpostYard x, int which, int howMany) {
        Due.is("helps(0)", x.helps(0), which);
        Due.is("helps(1)", x.helps(1), howMany);
    }

    private static void helpsNowhere() {
        Edge.of(20, "which (what = 0), how many (1). NONE; BAD.");
        SignpostYard x = Due.laid("n6;r0,1,1;p0,0,0;p0,1,0;p0,2,0;p0,3,0;p0,4,0;p0,5,0;w0,1;");
        helps(x, NONE, NONE);
        x.move(3, 4);
        helps(x, 3, 1);
        helps(Due.laid("n2;r0,1,1;p3,1,0;p2,0,0;w0,1;"), NONE, NONE);
    }

    private static void helpsWhereOneRetired() {
        Edge.of(20, "of TOWNS where no POST stands");
        SignpostYard x = Due.laid("n2;r0,1,1;p0,0,0;p0,1,59;w0,1;");
        helps(x, NONE, NONE);
        x.year();
        helps(x, 1, 1);
        x.retire(0);
        helps(x, 0, 1);
    }

    private static void helpsLowest() {
        Edge.of(20, "most WALKERS come in 40 HOURS, of several the lowest");
        helps(Due.laid("n8;p0,0,0;w0,1;"), 1, 0);
        helps(Due.laid("n8;p0,7,0;w0,1;"), 0, 0);
        helps(Due.laid("n3;r0,1,1;r0,2,1;p0,0,0;w0,1;w0,2;"), 1, 2);
        SignpostYard x = Due.laid("n8;r3,4,2;r3,5,1;r6,7,2;r6,2,1;p0,0,0;w3,4;w6,7;");
        helps(x, 3, 1);
        x.lays(3, 4, 0);
        helps(x, 6, 1);
    }

    private static void helpsLast() {
        Edge.of(20, "of TOWNS where no POST stands the one");
        helps(Due.laid("n8;r7,0,5;r7,6,1;p0,6,0;w7,0;"), 7, 1);
        helps(Due.laid("n2;r1,0,1;p0,0,0;w1,0;"), 1, 1);
    }

    private static void helpsPaintedNow() {
        Edge.of(20, "by a PLAIN POST put there now, PAINTED now");
        SignpostYard x = Due.laid("n4;r0,1,1;r0,2,2;p0,3,0;w0,2;");
        helps(x, 0, 1);
        x.lays(0, 2, 0);
        helps(x, 0, 0);
        x.lays(1, 2, 1);
        helps(x, 1, 1);
        x.pass(1);
        // at an uneven hour, when only a DRUNK one would be turned
        helps(x, 1, 1);
    }

    private static void helpsBesideSix() {
        Edge.of(20, "by a PLAIN POST put there now");
        SignpostYard x = Due.laid("n8;r0,1,3;r0,2,2;p0,1,0;p0,2,0;p0,3,0;p0,4,0;p0,5,0;p0,6,0;w0,1;");
        helps(x, 0, 1);
        Due.is("posts", x.count(1), 6);
        Due.is("who is lost", x.lost(), 1);
    }

    private static void helpsOnlyTold() {
        Edge.of(20, "HELPS: which (what = 0), how many (1). NONE; BAD.");
        SignpostYard x = Due.laid("n2;p0,0,0;p0,1,0;w0,1;");
        int[] bad = {2, -1, 3, LOW, HIGH};
        for (int what : bad) {
            Due.is("helps(" + what + ") with none to tell", x.helps(what), BAD);
            Due.is("helps(" + what + ")", new SignpostYard().helps(what), BAD);
        }
    }

    // ---- promise 21

    private static void paints(SignpostYard x, int which, int howMany) {
        Due.is("paints(0)", x.paints(0), which);
        Due.is("paints(1)", x.paints(1), howMany);
    }

    private static void paintsNone() {
        Edge.of(21, "of sets of POSTS not RETIRED, PAINTED now, none, too");
        paints(Due.laid("n2;r0,1,1;p0,0,0;p0,0,0;w0,1;w1,0;"), 0, 2);
        paints(Due.laid("n2;p0,0,0;p0,1,0;w0,1;w1,0;"), 0, 0);
    }

    private static void paintsAll() {
        Edge.of(21, "that by which most WALKERS come in 40 HOURS");
        SignpostYard x = Due.laid("n8;p0,0,0;p0,1,0;p0,2,0;p0,3,0;p0,4,0;p0,5,0;w0,6;");
        paints(x, 0, 0);
        for (int t = 0; t < 6; t++) {
            x.lays(t, t + 1, 1);
        }
        paints(x, 63, 1);
        x.paint(2);
        paints(x, 59, 1);
    }

    private static SignpostYard oneOrTwo() {
        SignpostYard x = Due.laid("n8;r0,1,1;r1,2,1;r2,3,1;p0,6,0;p0,7,0;p0,0,0;w0,3;");
        // without arms in 1 and 2; post 2 leads to 1 as it is, to 3 when it is painted
        x.move(0, 1);
        x.move(1, 2);
        x.lays(0, 3, 2);
        return x;
    }

    private static void paintsFewest() {
        Edge.of(21, "of several that of fewest, then the lowest as bits");
        SignpostYard x = oneOrTwo();
        Due.is("lost()", x.lost(), 1);
        paints(x, 4, 1);
        x.lays(0, 3, 9);
        paints(x, 3, 1);
    }

    private static void paintsLowest() {
        Edge.of(21, "of several that of fewest, then the lowest as bits");
        SignpostYard x = Due.laid("n3;p0,0,0;p0,0,0;w0,1;w1,0;");
        x.lays(0, 1, 1);
        // the walker in 1 comes of itself, the one in 0 asks post 0
        paints(x, 1, 2);
        x = Due.laid("n4;p0,3,0;p0,0,0;p0,1,0;w0,2;");
        x.lays(0, 2, 9);
        x.lays(1, 2, 9);
        paints(x, 2, 1);
        x = Due.laid("n4;r0,1,1;r1,2,1;r2,3,1;p0,0,0;p0,1,0;w0,3;");
        x.lays(2, 3, 0);
        x.lays(0, 3, 9);
        x.lays(1, 3, 9);
        // by either one it comes: by the first at once, by the other from 1
        paints(x, 1, 1);
    }

    private static void paintsMost() {
        Edge.of(21, "that by which most WALKERS come in 40 HOURS, of several that of fewest");
        SignpostYard x = Due.laid("n4;r0,1,1;r2,3,1;p0,0,0;p0,2,0;p0,1,0;w0,3;w2,1;");
        x.lays(0, 2, 1);
        paints(x, 3, 2);
        x.retire(1);
        paints(x, 0, 1);
    }

    private static void paintsNotRetired() {
        Edge.of(21, "of sets of POSTS not RETIRED");
        SignpostYard x = oneOrTwo();
        x.retire(2);
        paints(x, 3, 1);
        x.retire(0);
        paints(x, 0, 0);
        x.retire(1);
        paints(x, 0, 0);
        x = Due.laid("n2;p0,0,59;p0,0,0;w0,1;");
        x.lays(0, 1, 1);
        paints(x, 1, 1);
        x.year();
        paints(x, 2, 1);
    }

    private static void paintsOnlyTold() {
        Edge.of(21, "PAINT: which (what = 0; bits), how many (1). BAD.");
        int[] bad = {2, -1, 3, LOW, HIGH};
        for (int what : bad) {
            Due.is("paints(" + what + ")", new SignpostYard().paints(what), BAD);
        }
    }

    // ---- promise 22

    private static void cover(SignpostYard x, int howMany, int which) {
        Due.is("cover(0)", x.cover(0), howMany);
        Due.is("cover(1)", x.cover(1), which);
    }

    private static void coverOfNone() {
        Edge.of(22, "of fewest, then the lowest as bits: how many; which; none");
        cover(Due.laid("n2;r0,1,1;p0,0,0;w0,1;w1,0;"), 0, 0);
        SignpostYard x = Due.laid("n3;r0,2,1;r1,2,2;r0,1,2;p2,0,0;w0,1;");
        cover(x, 1, 1);
        x = Due.laid("n2;r0,1,1;p0,0,0;w0,1;");
        x.pass(1);
        x.lays(0, 1, 0);
        cover(x, 0, 0);
    }

    private static void coverOfAllGone() {
        Edge.of(22, "were all POSTS gone");
        SignpostYard x = Due.laid("n3;r0,1,1;r0,2,2;p2,0,0;w0,1;");
        Due.is("by the post it is lost", x.lost(), 1);
        cover(x, 0, 0);
        x = Due.laid("n3;r0,1,1;r0,2,2;p0,0,0;w0,2;");
        Due.is("by the post it comes", x.lost(), 0);
        cover(x, 1, 1);
        x.retire(0);
        cover(x, 1, 1);
    }

    private static void coverNever() {
        Edge.of(22, "so that all WALKERS come in 40 HOURS");
        SignpostYard x = Due.laid("n3;r0,1,1;p0,0,0;w0,1;w1,0;w0,2;");
        cover(x, NONE, NONE);
        x.lays(1, 2, 1);
        cover(x, 1, 2);
        x.lays(0, 2, 9);
        cover(x, 1, 2);
    }

    private static void coverFewest() {
        Edge.of(22, "of fewest, then the lowest as bits");
        cover(Due.laid("n4;r0,2,1;r0,1,2;r1,3,3;r2,3,5;p2,0,0;p1,1,50;w0,3;"), 1, 4);
        cover(Due.laid("n8;r0,1,9;r1,2,8;r2,3,7;r3,4,6;r4,5,5;r5,6,4;r6,7,3;p0,0,0;w7,0;"), 6, 126);
    }

    private static void coverLowest() {
        Edge.of(22, "of fewest, then the lowest as bits");
        cover(Due.laid("n3;r0,1,1;r0,2,2;r1,2,2;p0,2,0;w0,2;"), 1, 1);
        cover(Due.laid("n8;r5,6,1;r5,7,2;r6,7,2;p0,2,0;w5,7;"), 1, 32);
    }

    private static void coverLast() {
        Edge.of(22, "of sets of TOWNS that one in each of which stands a PLAIN POST, PAINTED now");
        cover(Due.laid("n8;r7,0,5;r7,6,1;p0,0,0;w7,0;"), 1, 128);
        SignpostYard x = Due.laid("n8;r7,0,5;r7,6,1;r0,5,6;r0,1,5;p0,0,0;w7,0;w0,5;");
        cover(x, 2, 129);
        x.lays(0, 5, 4);
        cover(x, 1, 128);
    }

    private static void coverOfAllTowns() {
        Edge.of(22, "of sets of TOWNS that one in each of which stands a PLAIN POST, PAINTED now");
        cover(Due.laid("n8;r4,6,9;r0,6,8;r0,1,6;r1,7,9;r7,5,2;r5,3,8;r2,4,5;r2,3,5;p0,0,0;w3,6;w1,3;w3,1;w1,4;"), 8, 255);
        cover(Due.laid("n5;r0,1,8;r1,2,7;r2,4,5;r0,3,6;r3,4,5;p0,0,0;w1,0;w3,0;w4,3;w0,1;w4,1;"), 5, 31);
    }

    private static void coverOnlyTold() {
        Edge.of(22, "COVER: how many (what = 0), which (1; bits). NONE; BAD.");
        SignpostYard x = Due.laid("n2;p0,0,0;w0,1;");
        int[] bad = {2, -1, 3, LOW, HIGH};
        for (int what : bad) {
            Due.is("cover(" + what + ") with none to tell", x.cover(what), BAD);
            Due.is("cover(" + what + ")", new SignpostYard().cover(what), BAD);
        }
    }

    // ---- promise 23

    private static void farToTheSame() {
        Edge.of(23, "FAR (0 to the same one). NONE; BAD.");
        SignpostYard x = Due.laid("n8;p0,0,0;w0,1;");
        for (int t = 0; t < 8; t++) {
            Due.is("far(" + t + ", " + t + ")", x.far(t, t), 0);
        }
        x.lays(0, 7, 1);
        Due.is("far(7, 7)", x.far(7, 7), 0);
    }

    private static void farNoWay() {
        Edge.of(23, "MILES of the PATH between two TOWNS; none");
        SignpostYard x = Due.laid("n4;r0,1,1;r2,3,9;p0,0,0;w0,1;");
        Due.is("far(0, 2)", x.far(0, 2), NONE);
        Due.is("far(3, 1)", x.far(3, 1), NONE);
        x.lays(1, 2, 5);
        Due.is("far(0, 3)", x.far(0, 3), 15);
        x.lays(2, 1, 0);
        Due.is("far(0, 3) closed", x.far(0, 3), NONE);
    }

    private static void farMost() {
        Edge.of(23, "MILES of the PATH between two TOWNS; none");
        SignpostYard x = Due.laid("n8;r7,0,9;r0,6,9;r6,1,9;r1,5,9;r5,2,9;r2,4,9;r4,3,9;p0,0,0;w0,1;");
        Due.is("far(7, 3)", x.far(7, 3), 63);
        Due.is("far(3, 7)", x.far(3, 7), 63);
        Due.is("far(3, 0)", x.far(3, 0), 54);
        x.lays(7, 3, 1);
        Due.is("far(7, 3) by one mile", x.far(7, 3), 1);
        Due.is("far(0, 3)", x.far(0, 3), 10);
    }

    private static void farOfWhatThereIs() {
        Edge.of(23, "(TOWNS, POSTS, WALKERS: such as there are)");
        SignpostYard x = Due.laid("n2;r0,1,3;p0,0,0;w0,1;");
        int[][] bad = {{0, 2}, {2, 0}, {2, 2}, {-1, 0}, {0, -1}, {-1, -1}, {LOW, LOW}, {HIGH, HIGH}, {HIGH, 0}};
        for (int[] one : bad) {
            Due.is("far(" + one[0] + ", " + one[1] + ")", x.far(one[0], one[1]), BAD);
        }
        Due.is("far(1, 0)", x.far(1, 0), 3);
    }

    private static void nothingIsDone() {
        Edge.of(17, "From now on, nothing else being done");
        SignpostYard x = RefusedEdges.inUse();
        x.comes(0);
        x.trail(1, 40);
        x.lost();
        x.helps(0);
        x.helps(1);
        x.paints(0);
        x.paints(1);
        x.cover(0);
        x.cover(1);
        x.far(0, 5);
        Stand.same("behind them", x, RefusedEdges.inUse());
    }
}
