/** Edges of promises 6 to 9: ROADS, POSTS, ARMS and where they POINT, WALKERS. */
final class StandEdges {
    private static final int BAD = SignpostYard.BAD, NONE = SignpostYard.NONE;
    private static final int PLAIN = 0, YOUNG = 1, WORN = 2, LYING = 3, DRUNK = 4;
    /** Roads from town 3 to 0, 5 and 7, from 0 to 1; all posts in 3: PLAIN, WORN of 39, WORN of 40, LYING, DRUNK. */
    private static final String FORK =
        "n8;r3,0,1;r3,5,1;r3,7,1;r0,1,1;p0,3,0;p1,3,39;p1,3,40;p2,3,0;p3,3,0;w3,1;";

    private StandEdges() {
    }

    static void all() {
        roadNone();
        roadAlike();
        roadOfTownsThereAre();
        roadBothWays();
        postRetired();
        postAges();
        postsThereAre();
        postNothingElse();
        pathOfFewestMiles();
        pathOfSeveralAlike();
        pathAsRoadsAre();
        armNoWay();
        armWhereItStands();
        armMost();
        armMilesNone();
        armMilesFewestAndMost();
        armAtFirst();
        armOfARetiredOne();
        armOfAMovedOne();
        armOfWhatThereIs();
        armBadAheadOfNone();
        plainPoints();
        plainPointsWhereNoRoadIs();
        wornPointsAt40();
        wornPointsWhenItIs40();
        lyingPoints();
        drunkPointsByTheHour();
        drunkPointsNowhere();
        noArmPointsNowhere();
        turnedBehindTheLast();
        turnedToThatOneItself();
        turnedNowhere();
        turnedAsRoadsAre();
        turnedFromWhereItStands();
        turnedBetweenTwoTowns();
        walkersThereAre();
        walkerThere();
        walkerNothingElse();
    }

    // ---- promise 6

    private static void roadNone() {
        Edge.of(6, "(NONE: there is none)");
        SignpostYard x = new SignpostYard();
        Due.is("road(0, 2)", x.road(0, 2), NONE);
        x.lays(0, 2, 9);
        Due.is("road(0, 2) laid", x.road(0, 2), 9);
        x.lays(0, 2, 0);
        Due.is("road(0, 2) closed", x.road(0, 2), NONE);
        Due.is("road(0, 3), though there is a way", x.road(0, 3), NONE);
    }

    private static void roadAlike() {
        Edge.of(6, "BAD (alike, too)");
        SignpostYard x = new SignpostYard();
        Due.is("road(0, 0)", x.road(0, 0), BAD);
        Due.is("road(5, 5)", x.road(5, 5), BAD);
        Due.is("road(6, 6)", x.road(6, 6), BAD);
    }

    private static void roadOfTownsThereAre() {
        Edge.of(6, "(TOWNS, POSTS, WALKERS: such as there are)");
        SignpostYard two = Due.laid("n2;r0,1,7;p0,0,0;w0,1;");
        Due.is("road(0, 1) of two", two.road(0, 1), 7);
        Due.is("road(0, 2) of two", two.road(0, 2), BAD);
        Due.is("road(2, 0) of two", two.road(2, 0), BAD);
        Due.is("road(0, -1) of two", two.road(0, -1), BAD);
        Due.is("road(-1, 0) of two", two.road(-1, 0), BAD);
        SignpostYard eight = Due.laid("n8;r6,7,7;p0,0,0;w0,1;");
        Due.is("road(6, 7) of eight", eight.road(6, 7), 7);
        Due.is("road(7, 8) of eight", eight.road(7, 8), BAD);
        Due.is("road(8, 7) of eight", eight.road(8, 7), BAD);
    }

    private static void roadBothWays() {
        Edge.of(6, "MILES of the ROAD between two TOWNS");
        SignpostYard x = Due.laid("n8;r7,0,9;r0,1,1;p0,0,0;w0,1;");
        Due.is("road(0, 7)", x.road(0, 7), 9);
        Due.is("road(7, 0)", x.road(7, 0), 9);
        Due.is("road(1, 0)", x.road(1, 0), 1);
    }

    // ---- promise 7

    private static void postRetired() {
        Edge.of(7, "TOWN (1; NONE: RETIRED)");
        SignpostYard x = Due.laid("n2;p3,1,59;p2,1,58;w0,1;");
        Due.is("post(0, 1)", x.post(0, 1), 1);
        x.year();
        Due.is("post(0, 1) of 60", x.post(0, 1), NONE);
        Due.is("post(1, 1) of 59", x.post(1, 1), 1);
        Due.is("post(0, 0) stays", x.post(0, 0), 3);
        x.retire(1);
        Due.is("post(1, 1) retired otherwise", x.post(1, 1), NONE);
        Due.is("post(1, 0) stays", x.post(1, 0), 2);
    }

    private static void postAges() {
        Edge.of(7, "(it is told as 60; one RETIRED otherwise as old as it was)");
        SignpostYard x = Due.laid("n2;p0,0,0;p0,0,58;p0,0,59;p0,0,59;w0,1;");
        x.retire(3);
        int[][] due = {{0, 58, 59, 59}, {1, 59, 60, 59}, {2, 60, 60, 59}, {3, 60, 60, 59}};
        for (int years = 0; years < due.length; years++) {
            for (int p = 0; p < 4; p++) {
                Due.is("behind " + years + " years post(" + p + ", 2)", x.post(p, 2), due[years][p]);
            }
            x.year();
        }
    }

    private static void postsThereAre() {
        Edge.of(7, "(TOWNS, POSTS, WALKERS: such as there are)");
        SignpostYard one = Due.laid("n2;p1,1,7;w0,1;");
        Due.is("post(0, 0) of one", one.post(0, 0), 1);
        Due.is("post(1, 0) of one", one.post(1, 0), BAD);
        Due.is("post(-1, 0) of one", one.post(-1, 0), BAD);
        SignpostYard six = Due.laid("n2;p0,0,0;p0,0,1;p0,0,2;p0,0,3;p0,0,4;p3,1,5;w0,1;");
        Due.is("post(5, 0) of six", six.post(5, 0), 3);
        Due.is("post(5, 1) of six", six.post(5, 1), 1);
        Due.is("post(5, 2) of six", six.post(5, 2), 5);
        Due.is("post(6, 0) of six", six.post(6, 0), BAD);
    }

    private static void postNothingElse() {
        Edge.of(7, "KIND (what = 0), TOWN (1; NONE: RETIRED), how old (2). BAD.");
        SignpostYard x = new SignpostYard();
        Due.is("post(0, -1)", x.post(0, -1), BAD);
        Due.is("post(0, 3)", x.post(0, 3), BAD);
        x.retire(0);
        Due.is("post(0, 3) retired", x.post(0, 3), BAD);
        Due.is("post(0, -1) retired", x.post(0, -1), BAD);
    }

    // ---- promise 8: PATHS and ARMS

    private static void pathOfFewestMiles() {
        Edge.of(8, "that of fewest MILES");
        SignpostYard x = Due.laid("n4;r0,3,8;r0,2,2;r2,1,2;r1,3,3;p0,0,0;w0,3;");
        Due.is("seven miles by three roads", x.arm(0, 3, 0), 2);
        Due.is("their miles", x.arm(0, 3, 1), 7);
        x = Due.laid("n4;r0,3,6;r0,2,2;r2,1,2;r1,3,3;p0,0,0;w0,3;");
        Due.is("six miles by one road", x.arm(0, 3, 0), 3);
        Due.is("its miles", x.arm(0, 3, 1), 6);
    }

    private static void pathOfSeveralAlike() {
        Edge.of(8, "of several that whose next TOWN is lowest");
        SignpostYard x = Due.laid("n4;r0,3,7;r0,2,2;r2,1,2;r1,3,3;p0,0,0;w0,3;");
        Due.is("seven miles by one road or three", x.arm(0, 3, 0), 2);
        Due.is("their miles", x.arm(0, 3, 1), 7);
        x = Due.laid("n8;r0,7,1;r0,1,1;r7,6,1;r1,6,1;p0,0,0;w0,6;p0,6,0;");
        Due.is("by the first or the last town", x.arm(0, 6, 0), 1);
        Due.is("and back", x.arm(1, 0, 0), 1);
        x = Due.laid("n3;r2,1,2;r2,0,1;r0,1,1;p0,2,0;w2,1;");
        Due.is("by town 0", x.arm(0, 1, 0), 0);
    }

    private static void pathAsRoadsAre() {
        Edge.of(8, "of ways along ROADS as they are");
        SignpostYard x = Due.laid("n3;r0,1,1;r1,2,1;p0,0,0;w0,2;");
        x.lays(0, 2, 1);
        Due.is("the arm stays till it is painted", x.arm(0, 2, 0), 1);
        x.paint(0);
        Due.is("the arm painted", x.arm(0, 2, 0), 2);
        x.lays(0, 2, 0);
        x.lays(1, 2, 0);
        Due.is("the arm stays, though no way is left", x.arm(0, 2, 0), 2);
        x.paint(0);
        Due.is("the arm painted when no way is left", x.arm(0, 2, 0), NONE);
    }

    private static void armNoWay() {
        Edge.of(8, "(its ARM; none, if there is no way, or it stands there)");
        SignpostYard x = Due.laid("n4;r0,1,1;r2,3,1;p0,0,0;w0,1;");
        Due.is("arm(0, 1, 0)", x.arm(0, 1, 0), 1);
        Due.is("arm(0, 2, 0)", x.arm(0, 2, 0), NONE);
        Due.is("arm(0, 3, 0)", x.arm(0, 3, 0), NONE);
    }

    private static void armWhereItStands() {
        Edge.of(8, "(its ARM; none, if there is no way, or it stands there)");
        SignpostYard x = Due.laid("n8;r0,7,1;p0,0,0;p0,7,0;w0,7;");
        Due.is("arm(0, 0, 0)", x.arm(0, 0, 0), NONE);
        Due.is("arm(1, 7, 0)", x.arm(1, 7, 0), NONE);
        Due.is("arm(0, 7, 0)", x.arm(0, 7, 0), 7);
        Due.is("arm(1, 0, 0)", x.arm(1, 0, 0), 0);
    }

    private static void armMost() {
        Edge.of(8, "PAINTED a POST has, for each TOWN, the next TOWN of the PATH there");
        SignpostYard x = Due.laid("n8;r0,1,1;r1,2,1;r2,3,1;r3,4,1;r4,5,1;r5,6,1;r6,7,1;p0,3,0;w0,7;");
        int[] due = {2, 2, 2, NONE, 4, 4, 4, 4};
        for (int y = 0; y < 8; y++) {
            Due.is("arm(0, " + y + ", 0)", x.arm(0, y, 0), due[y]);
        }
        Due.is("paint(0)", x.paint(0), 7);
    }

    private static void armMilesNone() {
        Edge.of(8, "how many MILES that is (none, if it has no ARM)");
        SignpostYard x = Due.laid("n3;r0,1,1;p0,0,0;w0,1;");
        Due.is("miles for where it stands", x.arm(0, 0, 1), NONE);
        Due.is("miles for where no way leads", x.arm(0, 2, 1), NONE);
        Due.is("miles for where one leads", x.arm(0, 1, 1), 1);
    }

    private static void armMilesFewestAndMost() {
        Edge.of(8, "how many MILES that is (none, if it has no ARM)");
        SignpostYard x = Due.laid("n8;r0,1,1;r1,2,8;r2,3,9;r3,4,9;r4,5,9;r5,6,9;r6,7,9;p0,0,0;w0,7;");
        int[] due = {NONE, 1, 9, 18, 27, 36, 45, 54};
        for (int y = 0; y < 8; y++) {
            Due.is("arm(0, " + y + ", 1)", x.arm(0, y, 1), due[y]);
        }
        x.lays(0, 1, 9);
        x.lays(1, 2, 9);
        Due.is("the miles stay till it is painted", x.arm(0, 7, 1), 54);
        x.paint(0);
        Due.is("the most there can be", x.arm(0, 7, 1), 63);
    }

    private static void armAtFirst() {
        Edge.of(8, "At first, all being laid, all POSTS are PAINTED");
        SignpostYard x = Due.laid("n3;p0,0,0;r0,2,9;w0,2;p2,2,59;r0,1,2;r0,2,5;r1,2,2;");
        Due.is("the first post's arm", x.arm(0, 2, 0), 1);
        Due.is("the first post's miles", x.arm(0, 2, 1), 4);
        Due.is("the last post's arm", x.arm(1, 0, 0), 1);
        Due.is("the last post's miles", x.arm(1, 1, 1), 2);
    }

    private static void armOfARetiredOne() {
        Edge.of(8, "NONE (RETIRED, too)");
        SignpostYard x = Due.laid("n2;r0,1,1;p0,0,59;p0,1,0;w0,1;");
        x.year();
        x.retire(1);
        for (int p = 0; p < 2; p++) {
            for (int y = 0; y < 2; y++) {
                for (int what = 0; what < 3; what++) {
                    Due.is("arm(" + p + ", " + y + ", " + what + ")", x.arm(p, y, what), NONE);
                }
            }
        }
    }

    private static void armOfAMovedOne() {
        Edge.of(8, "moved to another TOWN (its ARMS stay)");
        SignpostYard x = Due.laid("n3;r0,1,1;r1,2,1;p0,0,0;w0,2;");
        x.move(0, 2);
        int[] arms = {NONE, 1, 1};
        int[] miles = {NONE, 1, 2};
        for (int y = 0; y < 3; y++) {
            Due.is("arm(0, " + y + ", 0)", x.arm(0, y, 0), arms[y]);
            Due.is("arm(0, " + y + ", 1)", x.arm(0, y, 1), miles[y]);
            Due.is("arm(0, " + y + ", 2)", x.arm(0, y, 2), arms[y]);
        }
        x.move(0, 1);
        Due.is("it points to where it stands", x.arm(0, 2, 2), 1);
    }

    private static void armOfWhatThereIs() {
        Edge.of(8, "BAD: a number is none that is told (TOWNS, POSTS, WALKERS: such as there are)");
        SignpostYard x = Due.laid("n2;r0,1,1;p0,0,0;w0,1;");
        Due.is("arm(1, 0, 0)", x.arm(1, 0, 0), BAD);
        Due.is("arm(-1, 0, 0)", x.arm(-1, 0, 0), BAD);
        Due.is("arm(0, 2, 0)", x.arm(0, 2, 0), BAD);
        Due.is("arm(0, -1, 0)", x.arm(0, -1, 0), BAD);
        Due.is("arm(0, 1, 3)", x.arm(0, 1, 3), BAD);
        Due.is("arm(0, 1, -1)", x.arm(0, 1, -1), BAD);
        x = Due.laid("n8;r6,7,1;p0,0,0;p0,0,0;p0,0,0;p0,0,0;p0,0,0;p0,6,0;w0,1;");
        Due.is("arm(5, 7, 0)", x.arm(5, 7, 0), 7);
        Due.is("arm(6, 7, 0)", x.arm(6, 7, 0), BAD);
        Due.is("arm(5, 8, 0)", x.arm(5, 8, 0), BAD);
    }

    private static void armBadAheadOfNone() {
        Edge.of(8, "Of several the first in this order");
        SignpostYard x = Due.laid("n2;r0,1,1;p0,0,0;w0,1;");
        Due.is("arm(0, 0, 3) for where it stands", x.arm(0, 0, 3), BAD);
        Due.is("arm(0, 0, -1) for where it stands", x.arm(0, 0, -1), BAD);
        x.retire(0);
        Due.is("arm(0, 1, 3) of a retired one", x.arm(0, 1, 3), BAD);
        Due.is("arm(0, 2, 0) of a retired one", x.arm(0, 2, 0), BAD);
    }

    // ---- promise 8: where a POST POINTS

    private static void points(SignpostYard x, int p, int... due) {
        for (int y = 0; y < due.length; y++) {
            Due.is("hour " + x.count(3) + ", arm(" + p + ", " + y + ", 2)", x.arm(p, y, 2), due[y]);
        }
    }

    private static void plainPoints() {
        Edge.of(8, "a PLAIN one to its ARM");
        SignpostYard x = Due.laid(FORK);
        points(x, PLAIN, 0, 0, NONE, NONE, NONE, 5, NONE, 7);
        x.pass(1);
        points(x, PLAIN, 0, 0, NONE, NONE, NONE, 5, NONE, 7);
    }

    private static void plainPointsWhereNoRoadIs() {
        Edge.of(8, "a PLAIN one to its ARM");
        SignpostYard x = Due.laid(FORK);
        x.lays(3, 0, 0);
        x.lays(3, 5, 0);
        x.lays(3, 7, 0);
        points(x, PLAIN, 0, 0, NONE, NONE, NONE, 5, NONE, 7);
        points(x, YOUNG, 0, 0, NONE, NONE, NONE, 5, NONE, 7);
        points(x, DRUNK, 0, 0, NONE, NONE, NONE, 5, NONE, 7);
    }

    private static void wornPointsAt40() {
        Edge.of(8, "a WORN one that is 40 YEARS old or more, TURNED (a younger one as a PLAIN one)");
        SignpostYard x = Due.laid(FORK);
        points(x, YOUNG, 0, 0, NONE, NONE, NONE, 5, NONE, 7);
        points(x, WORN, 5, 5, NONE, NONE, NONE, 7, NONE, 0);
        x = Due.laid("n3;r0,1,1;r0,2,1;p1,0,0;p1,0,59;w0,1;");
        points(x, 0, NONE, 1, 2);
        points(x, 1, NONE, 2, 1);
    }

    private static void wornPointsWhenItIs40() {
        Edge.of(8, "a WORN one that is 40 YEARS old or more, TURNED (a younger one as a PLAIN one)");
        SignpostYard x = Due.laid(FORK);
        x.year();
        points(x, YOUNG, 5, 5, NONE, NONE, NONE, 7, NONE, 0);
        x.undo();
        points(x, YOUNG, 0, 0, NONE, NONE, NONE, 5, NONE, 7);
        x.pass(1);
        points(x, WORN, 5, 5, NONE, NONE, NONE, 7, NONE, 0);
    }

    private static void lyingPoints() {
        Edge.of(8, "a LYING one TURNED");
        SignpostYard x = Due.laid(FORK);
        points(x, LYING, 5, 5, NONE, NONE, NONE, 7, NONE, 0);
        x.pass(1);
        points(x, LYING, 5, 5, NONE, NONE, NONE, 7, NONE, 0);
    }

    private static void drunkPointsByTheHour() {
        Edge.of(8, "a DRUNK one, if the HOUR is uneven, TURNED twice");
        SignpostYard x = Due.laid(FORK);
        points(x, DRUNK, 0, 0, NONE, NONE, NONE, 5, NONE, 7);
        x.pass(1);
        points(x, DRUNK, 7, 7, NONE, NONE, NONE, 0, NONE, 5);
        x.pass(1);
        points(x, DRUNK, 0, 0, NONE, NONE, NONE, 5, NONE, 7);
        for (int i = 0; i < 49; i++) {
            x.pass(20);
        }
        x.pass(17);
        Due.is("the last hour", x.count(3), 999);
        points(x, DRUNK, 7, 7, NONE, NONE, NONE, 0, NONE, 5);
        x.undo();
        x.pass(16);
        points(x, DRUNK, 0, 0, NONE, NONE, NONE, 5, NONE, 7);
    }

    private static void drunkPointsNowhere() {
        Edge.of(8, "TURNED twice (nowhere, if the first leads nowhere)");
        SignpostYard x = Due.laid(FORK);
        x.pass(1);
        x.lays(3, 0, 0);
        x.lays(3, 5, 0);
        points(x, DRUNK, 7, 7, NONE, NONE, NONE, 7, NONE, 7);
        x.lays(3, 7, 0);
        points(x, DRUNK, NONE, NONE, NONE, NONE, NONE, NONE, NONE, NONE);
        x.pass(1);
        points(x, DRUNK, 0, 0, NONE, NONE, NONE, 5, NONE, 7);
    }

    private static void noArmPointsNowhere() {
        Edge.of(8, "nowhere, if it has no ARM there");
        SignpostYard x = Due.laid(FORK);
        x.pass(1);
        for (int p = 0; p < 5; p++) {
            Due.is("where it stands: arm(" + p + ", 3, 2)", x.arm(p, 3, 2), NONE);
            Due.is("no way: arm(" + p + ", 6, 2)", x.arm(p, 6, 2), NONE);
            x.lays(3, 6, 1);
            Due.is("a way, but not painted: arm(" + p + ", 6, 2)", x.arm(p, 6, 2), NONE);
            x.lays(3, 6, 0);
        }
    }

    private static void turnedBehindTheLast() {
        Edge.of(8, "TURNED is the next TOWN behind (behind the last one the first)");
        SignpostYard x = Due.laid("n8;r3,0,1;r3,7,1;p2,3,0;w3,0;");
        Due.is("behind the last the first", x.arm(0, 7, 2), 0);
        Due.is("behind the first the last", x.arm(0, 0, 2), 7);
        x = Due.laid("n8;r7,6,1;r7,5,1;p2,7,0;w7,5;");
        Due.is("round past the first", x.arm(0, 6, 2), 5);
        Due.is("the next one", x.arm(0, 5, 2), 6);
        x = Due.laid("n8;r0,6,1;r0,2,1;p2,0,0;w0,2;");
        Due.is("round past where it stands", x.arm(0, 6, 2), 2);
        x = Due.laid("n3;r0,2,1;r0,1,1;p2,0,0;w0,2;");
        Due.is("the last one of three", x.arm(0, 2, 2), 1);
    }

    private static void turnedToThatOneItself() {
        Edge.of(8, "(that one itself, if there is no other one; nowhere, if none leads)");
        SignpostYard x = Due.laid("n8;r0,7,1;r7,6,1;p2,0,0;p1,7,50;w0,7;");
        Due.is("to the only one", x.arm(0, 7, 2), 7);
        Due.is("to the only one, for another", x.arm(0, 6, 2), 7);
        x.lays(6, 7, 0);
        Due.is("to the only one left", x.arm(1, 0, 2), 0);
        Due.is("not to that one itself, no road leads there now", x.arm(1, 6, 2), 0);
    }

    private static void turnedNowhere() {
        Edge.of(8, "(that one itself, if there is no other one; nowhere, if none leads)");
        SignpostYard x = Due.laid("n3;r0,1,1;r1,2,1;p2,0,0;p1,0,40;w0,1;");
        x.lays(0, 1, 0);
        points(x, 0, NONE, NONE, NONE);
        points(x, 1, NONE, NONE, NONE);
        Due.is("the arm is there", x.arm(0, 2, 0), 1);
    }

    private static void turnedAsRoadsAre() {
        Edge.of(8, "to which a ROAD leads, as ROADS are");
        SignpostYard x = Due.laid(FORK);
        x.lays(3, 5, 0);
        points(x, LYING, 7, 7, NONE, NONE, NONE, 7, NONE, 0);
        x.lays(3, 1, 9);
        points(x, LYING, 1, 1, NONE, NONE, NONE, 7, NONE, 0);
        x.lays(3, 6, 9);
        points(x, LYING, 1, 1, NONE, NONE, NONE, 6, NONE, 0);
    }

    private static void turnedFromWhereItStands() {
        Edge.of(8, "to which a ROAD leads, as ROADS are, from where it stands");
        SignpostYard x = Due.laid(FORK);
        x.move(LYING, 0);
        points(x, LYING, 1, 1, NONE, NONE, NONE, 1, NONE, 1);
        x.move(LYING, 1);
        points(x, LYING, 0, 0, NONE, NONE, NONE, 0, NONE, 0);
        x.move(LYING, 4);
        points(x, LYING, NONE, NONE, NONE, NONE, NONE, NONE, NONE, NONE);
    }

    private static void turnedBetweenTwoTowns() {
        Edge.of(8, "TURNED is the next TOWN behind (behind the last one the first)");
        SignpostYard x = Due.laid("n2;r0,1,9;p2,0,0;p2,1,0;p3,1,0;w0,1;");
        Due.is("from 0", x.arm(0, 1, 2), 1);
        Due.is("from 1", x.arm(1, 0, 2), 0);
        x.pass(1);
        Due.is("twice from 1", x.arm(2, 0, 2), 0);
    }

    // ---- promise 9

    private static void walkersThereAre() {
        Edge.of(9, "(TOWNS, POSTS, WALKERS: such as there are)");
        SignpostYard one = Due.laid("n2;p0,0,0;w1,0;");
        Due.is("walker(0, 0) of one", one.walker(0, 0), 1);
        Due.is("walker(1, 0) of one", one.walker(1, 0), BAD);
        Due.is("walker(-1, 0) of one", one.walker(-1, 0), BAD);
        SignpostYard five = Due.laid("n8;p0,0,0;w0,1;w0,1;w0,1;w0,1;w7,6;");
        Due.is("walker(4, 0) of five", five.walker(4, 0), 7);
        Due.is("walker(4, 1) of five", five.walker(4, 1), 6);
        Due.is("walker(5, 0) of five", five.walker(5, 0), BAD);
    }

    private static void walkerThere() {
        Edge.of(9, "1 if it is there (2)");
        SignpostYard x = Due.laid("n2;r0,1,1;p0,0,0;w0,1;");
        Due.is("walker(0, 2)", x.walker(0, 2), 0);
        x.pass(1);
        Due.is("walker(0, 2) there", x.walker(0, 2), 1);
        x.undo();
        Due.is("walker(0, 2) undone", x.walker(0, 2), 0);
    }

    private static void walkerNothingElse() {
        Edge.of(9, "where it is (what = 0), where it would be (1), 1 if it is there (2). BAD.");
        SignpostYard x = new SignpostYard();
        Due.is("walker(0, 3)", x.walker(0, 3), BAD);
        Due.is("walker(0, -1)", x.walker(0, -1), BAD);
        Due.is("walker(4, 3)", x.walker(4, 3), BAD);
    }
}
