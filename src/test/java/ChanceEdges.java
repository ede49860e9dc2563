import java.math.BigInteger;

/** Edges of promises 30 and 31: LIKELY and CENTURIES. */
final class ChanceEdges {
    private static final int BAD = SignpostYard.BAD;
    private static final int LOW = Integer.MIN_VALUE, HIGH = Integer.MAX_VALUE;
    private static final int PAINT = 0, MOVE = 1, YEAR = 2, ROAD = 3;

    private ChanceEdges() {
    }

    static void all() {
        likelyNeverTurned();
        likelyAlwaysTurned();
        likelyTooFewOrManyTenths();
        likelyPartsTold();
        likelyOfWhoThereIs();
        likelyInLowestTerms();
        likelyNeverAndAlways();
        likelyOfSixPosts();
        likelyOfRetiredOnes();
        likelyNowhere();
        likelyBehindItsOwnTurns();
        likelyBeyondTheLastHour();
        centuryFirstAndLast();
        centuryFewestAndMostTimes();
        centuryTold();
        centuryOfLargeDraws();
        centuryPaints();
        centuryPaintsNoRetiredOne();
        centuryOfSixPosts();
        centuryMoves();
        centuryMovesNoneWhereItStands();
        centuryMovesNoRetiredOne();
        centuryYears();
        centuryClosesRoads();
        centuryLaysRoads();
        centuryBehindTheLastTown();
        centuryNothingBySome();
        centuryHourByHour();
        centuryOfTwoTowns();
        centuryWhoCameAhead();
        centuryChangesNothing();
    }

    // ---- promise 30

    private static void likely(SignpostYard x, int w, int tenths, int above, int below) {
        Due.is("likely(" + w + ", " + tenths + ", 0)", x.likely(w, tenths, 0), above);
        Due.is("likely(" + w + ", " + tenths + ", 1)", x.likely(w, tenths, 1), below);
    }

    private static void likelyNeverTurned() {
        Edge.of(30, "by x (0 to 10) of ten");
        SignpostYard x = Due.laid("n3;r0,1,1;r0,2,1;p0,0,0;p2,2,0;w0,1;w0,2;");
        likely(x, 0, 0, 1, 1);
        likely(x, 1, 0, 1, 1);
        likely(x, 0, 1, 9, 10);
    }

    private static void likelyAlwaysTurned() {
        Edge.of(30, "by x (0 to 10) of ten");
        SignpostYard x = Due.laid("n3;r0,1,1;r0,2,1;p0,0,0;w0,1;w2,0;");
        likely(x, 0, 10, 0, 1);
        likely(x, 1, 10, 1, 1);
        likely(x, 0, 9, 1, 10);
    }

    private static void likelyTooFewOrManyTenths() {
        Edge.of(30, "LIKELY: above (part = 0), below (1). BAD.");
        SignpostYard x = new SignpostYard();
        int[] bad = {-1, 11, 12, 100, LOW, HIGH};
        for (int tenths : bad) {
            Due.is("likely(0, " + tenths + ", 0)", x.likely(0, tenths, 0), BAD);
            Due.is("likely(0, " + tenths + ", 1)", x.likely(0, tenths, 1), BAD);
        }
    }

    private static void likelyPartsTold() {
        Edge.of(30, "LIKELY: above (part = 0), below (1). BAD.");
        SignpostYard x = new SignpostYard();
        int[] bad = {-1, 2, 3, LOW, HIGH};
        for (int part : bad) {
            Due.is("likely(0, 5, " + part + ")", x.likely(0, 5, part), BAD);
        }
    }

    private static void likelyOfWhoThereIs() {
        Edge.of(30, "(TOWNS, POSTS, WALKERS: such as there are)");
        SignpostYard x = new SignpostYard();
        int[] bad = {-1, 4, 5, LOW, HIGH};
        for (int w : bad) {
            Due.is("likely(" + w + ", 5, 0)", x.likely(w, 5, 0), BAD);
        }
        Due.is("likely(1, 0, 0) of one", Due.laid("n2;p0,0,0;w0,1;").likely(1, 0, 0), BAD);
    }

    private static void likelyInLowestTerms() {
        Edge.of(30, "in lowest terms");
        SignpostYard x = Due.laid("n3;r0,1,1;r0,2,1;p0,0,0;w0,1;");
        int[] above = {1, 9, 4, 7, 3, 1, 2, 3, 1, 1, 0};
        int[] below = {1, 10, 5, 10, 5, 2, 5, 10, 5, 10, 1};
        for (int tenths = 0; tenths <= 10; tenths++) {
            likely(x, 0, tenths, above[tenths], below[tenths]);
        }
    }

    private static void likelyNeverAndAlways() {
        Edge.of(30, "how likely the WALKER comes in 40 HOURS, in lowest terms");
        SignpostYard x = Due.laid("n4;r0,1,1;p0,0,0;p0,1,0;w0,3;w0,1;");
        for (int tenths = 0; tenths <= 10; tenths += 5) {
            likely(x, 0, tenths, 0, 1);
            likely(x, 1, tenths, 1, 1);
        }
        x.pass(1);
        x.lays(0, 1, 0);
        likely(x, 1, 5, 1, 1);
    }

    private static void likelyOfSixPosts() {
        Edge.of(30, "each POST not RETIRED is by x (0 to 10) of ten, for itself");
        SignpostYard x = Due.laid("n8;r0,1,1;r1,2,1;r2,3,1;r3,4,1;r4,5,1;r5,6,1;r0,7,9;"
            + "p0,0,0;p0,1,0;p0,2,0;p0,3,0;p0,4,0;p0,5,0;w0,6;w5,6;");
        likely(x, 0, 1, 531441, 1000000);
        likely(x, 0, 9, 1, 1000000);
        likely(x, 0, 5, 1, 64);
        likely(x, 1, 9, 1, 10);
        x.retire(5);
        likely(x, 1, 9, 0, 1);
    }

    private static void likelyOfRetiredOnes() {
        Edge.of(30, "each POST not RETIRED is by x (0 to 10) of ten");
        SignpostYard x = Due.laid("n3;r0,1,1;r0,2,1;p0,0,59;p0,0,0;p0,2,0;w0,1;");
        likely(x, 0, 3, 7, 10);
        x.year();
        likely(x, 0, 3, 7, 10);
        x.retire(1);
        likely(x, 0, 3, 1, 1);
        x.retire(2);
        likely(x, 0, 10, 1, 1);
        x.lays(0, 1, 2);
        likely(x, 0, 10, 0, 1);
    }

    private static void likelyNowhere() {
        Edge.of(30, "wherever it POINTS (nowhere stays so)");
        SignpostYard x = Due.laid("n3;p0,0,0;w0,1;");
        x.lays(0, 1, 1);
        x.lays(0, 2, 1);
        likely(x, 0, 10, 0, 1);
        likely(x, 0, 5, 0, 1);
        x.paint(0);
        likely(x, 0, 5, 1, 2);
    }

    private static void likelyBehindItsOwnTurns() {
        Edge.of(30, "TURNED once more, behind its own turns");
        SignpostYard x = Due.laid("n4;r0,1,1;r0,2,1;r0,3,1;r1,0,1;p2,0,0;w0,3;w0,1;w0,2;");
        // turned once: for 3 to 1, for 1 to 2, for 2 to 3; once more: for 3 to 2, for 1 to 3, for 2 to 1
        for (int w = 0; w < 3; w++) {
            likely(x, w, 3, 0, 1);
        }
        x = Due.laid("n3;r0,1,1;r0,2,1;p2,0,0;w0,1;");
        likely(x, 0, 0, 0, 1);
        likely(x, 0, 3, 3, 10);
        likely(x, 0, 10, 1, 1);
        x = Due.laid("n4;r0,1,1;r0,2,1;r0,3,1;p1,0,39;p1,2,0;w0,1;");
        // not turned yet for being WORN
        likely(x, 0, 3, 7, 10);
        x.year();
        // turned once to 2, once more to 3
        likely(x, 0, 3, 0, 1);
        x = Due.laid("n4;r0,1,1;r0,2,1;r0,3,1;p3,0,0;w0,1;");
        // even: to 1, once more to 2
        likely(x, 0, 3, 7, 10);
        x.lays(0, 1, 0);
        x.pass(1);
        x.lays(0, 1, 1);
        // uneven: turned twice to 3, once more to 1
        likely(x, 0, 3, 3, 10);
    }

    private static void likelyBeyondTheLastHour() {
        Edge.of(30, "(beyond the last that may go by, too)");
        SignpostYard x = Due.laid("n3;r0,1,1;r1,2,1;p0,0,0;p0,1,0;w0,2;");
        x.lays(0, 1, 0);
        for (int i = 0; i < 49; i++) {
            x.pass(20);
        }
        x.pass(19);
        x.lays(0, 1, 1);
        Due.is("the hour", x.count(3), 999);
        // in 0 there is but one road, so the first one's turn is none
        likely(x, 0, 3, 7, 10);
        Due.is("century(0, 60, 0)", x.century(0, 60, 0) >= 0 ? 1 : 0, 1);
        Due.is("the hour stays", x.count(3), 999);
    }

    // ---- promise 31

    private static void centuryFirstAndLast() {
        Edge.of(31, "by z (0 to 9999)");
        SignpostYard x = new SignpostYard();
        Due.is("century(0, 1, 1)", x.century(0, 1, 1), 0);
        Due.holds("century(9999, 1, 1)", x.century(9999, 1, 1) >= 0);
        int[] bad = {-1, 10000, 10001, 65536, LOW, HIGH};
        for (int z : bad) {
            for (int what = 0; what < 3; what++) {
                Due.is("century(" + z + ", 1, " + what + ")", x.century(z, 1, what), BAD);
            }
        }
    }

    private static void centuryFewestAndMostTimes() {
        Edge.of(31, "of n (1 to 60) times from now on");
        SignpostYard x = new SignpostYard();
        Due.holds("century(0, 1, 2)", x.century(0, 1, 2) >= 0);
        Due.holds("century(0, 60, 2)", x.century(0, 60, 2) >= 0);
        int[] bad = {0, -1, 61, 62, 100, LOW, HIGH};
        for (int n : bad) {
            for (int what = 0; what < 3; what++) {
                Due.is("century(0, " + n + ", " + what + ")", x.century(0, n, what), BAD);
            }
        }
    }

    private static void centuryTold() {
        Edge.of(31, "A CENTURY: come (what = 0), RETIRED (1), MILES (2). BAD.");
        SignpostYard x = new SignpostYard();
        int[] bad = {-1, 3, 4, LOW, HIGH};
        for (int what : bad) {
            Due.is("century(0, 1, " + what + ")", x.century(0, 1, what), BAD);
        }
    }

    private static int draw(int z, int time) {
        BigInteger x = BigInteger.valueOf(z).multiply(BigInteger.valueOf(7919))
            .add(BigInteger.valueOf(time).multiply(BigInteger.valueOf(6151))).add(BigInteger.ONE);
        return x.multiply(x).mod(BigInteger.valueOf(65521)).divide(BigInteger.TWO).intValue();
    }

    private static int act(int z, int time) {
        return draw(z, time) / 64 % 6;
    }

    /** The lowest z from one on whose first draw does that act, with that post and that town; -1 if there is none. */
    private static int drawn(int from, int act, int posts, int p, int towns, int town) {
        for (int z = from; z <= 9999; z++) {
            int draw = draw(z, 0);
            if (draw / 64 % 6 == act && draw % posts == p && draw / 8 % towns == town) {
                return z;
            }
        }
        return -1;
    }

    /** x times x is far beyond an int for the last z and the last times: the years that go by tell it. */
    private static void centuryOfLargeDraws() {
        Edge.of(31, "DRAW being ((x times x) modulo 65521) by 2, cut, x 7919 z, 6151 (the time, 0 first) and 1 together");
        SignpostYard x = Due.laid("n2;p0,0,59;p0,0,54;p0,0,53;p0,0,52;p0,0,51;p0,0,50;w0,1;");
        int[] ages = {59, 54, 53, 52, 51, 50};
        for (int z = 9970; z <= 9999; z++) {
            for (int n = 60; n > 0; n -= 13) {
                int years = 0;
                for (int time = 0; time < n; time++) {
                    years += act(z, time) == YEAR ? 1 : 0;
                }
                int retired = 0;
                for (int age : ages) {
                    retired += age + years >= 60 ? 1 : 0;
                }
                Due.is("century(" + z + ", " + n + ", 1)", x.century(z, n, 1), retired);
            }
        }
    }

    private static void centuryPaints() {
        Edge.of(31, "if (DRAW by 64, cut) modulo 6 is 0, it is PAINTED");
        SignpostYard x = Due.laid("n3;p0,0,0;p0,0,0;w0,1;");
        x.lays(0, 1, 1);
        for (int town = 0; town < 3; town++) {
            int first = drawn(0, PAINT, 2, 0, 3, town);
            int second = drawn(0, PAINT, 2, 1, 3, town);
            Due.is("the lowest post is painted by " + first, x.century(first, 1, 0), 1);
            Due.is("the other one is painted by " + second, x.century(second, 1, 0), 0);
        }
        x.retire(0);
        int second = drawn(0, PAINT, 2, 1, 3, 0);
        Due.is("the lowest that stands is painted by " + second, x.century(second, 1, 0), 1);
    }

    private static void centuryPaintsNoRetiredOne() {
        Edge.of(31, "each if it can be (a POST is not RETIRED;");
        SignpostYard x = Due.laid("n3;p0,0,0;p0,1,0;w0,1;");
        x.lays(0, 1, 2);
        x.lays(0, 2, 1);
        x.retire(0);
        int z = drawn(0, PAINT, 2, 0, 3, 0);
        Due.is("a retired one leads no one, century(" + z + ", 1, 0)", x.century(z, 1, 0), 0);
        Due.is("it stays retired", x.century(z, 1, 1), 1);
        Due.is("nothing else is done", x.century(z, 1, 2), 3);
    }

    private static void centuryOfSixPosts() {
        Edge.of(31, "with POST DRAW modulo as many");
        SignpostYard x = Due.laid("n8;p0,0,0;p0,1,0;p0,2,0;p0,3,0;p0,4,0;p0,5,0;w0,7;w1,7;w2,7;w3,7;w4,7;");
        for (int t = 0; t < 5; t++) {
            x.lays(t, 7, 1);
        }
        for (int p = 0; p < 6; p++) {
            int z = drawn(0, PAINT, 6, p, 8, 7 - p);
            Due.is("post " + p + " is painted by " + z, x.century(z, 1, 0), p < 5 ? 1 : 0);
        }
        x.retire(5);
        x.retire(3);
        for (int p = 0; p < 6; p++) {
            int z = drawn(0, PAINT, 6, p, 8, p);
            // the one in 3 asks none now, and goes along the only road
            Due.is("of six, two retired, post " + p + " is painted by " + z, x.century(z, 1, 0), p == 3 || p == 5 ? 1 : 2);
        }
    }

    private static void centuryMoves() {
        Edge.of(31, "if 1, moved there");
        // the post has an arm from 0 to 1; the walker in 2 goes to 0, and asks it there if it is there still
        SignpostYard x = Due.laid("n4;r0,1,2;r2,0,1;r0,3,1;p0,0,0;w0,1;");
        Due.is("it comes by the post", x.comes(0), 1);
        for (int town = 1; town < 4; town++) {
            int z = drawn(0, MOVE, 1, 0, 4, town);
            Due.is("moved away by " + z, x.century(z, 1, 0), 0);
            Due.is("not retired by " + z, x.century(z, 1, 1), 0);
        }
        x = Due.laid("n4;r0,1,2;r2,0,1;r0,3,1;p0,0,0;w2,1;");
        x.move(0, 2);
        // its arm is 1 still, and no road leads there from 2
        Due.is("it stays by the post", x.trail(0, 1), 2);
        Due.is("it goes to 0 when the post is moved there", x.century(drawn(0, MOVE, 1, 0, 4, 0), 1, 0), 0);
        x.lays(2, 1, 9);
        Due.is("it would go by the arm as it is", x.century(drawn(0, MOVE, 1, 0, 4, 2), 1, 0), 1);
        Due.is("it goes to 0 when the post is moved away", x.century(drawn(0, MOVE, 1, 0, 4, 3), 1, 0), 0);
        x = Due.laid("n4;r0,1,2;r2,0,1;r0,3,1;p0,2,0;w0,1;");
        // moved from 2 to 0 it points for 1 to 0 still: its arms stay
        Due.is("it is not painted there", x.century(drawn(0, MOVE, 1, 0, 4, 0), 1, 0), 0);
    }

    private static void centuryMovesNoneWhereItStands() {
        Edge.of(31, "moved where it stands is nothing");
        SignpostYard x = Due.laid("n4;r0,1,2;r2,0,1;r0,3,1;p0,0,0;w0,1;");
        int z = drawn(0, MOVE, 1, 0, 4, 0);
        Due.is("century(" + z + ", 1, 0)", x.century(z, 1, 0), 1);
        Due.is("century(" + z + ", 1, 1)", x.century(z, 1, 1), 0);
        Due.is("century(" + z + ", 1, 2)", x.century(z, 1, 2), 4);
    }

    private static void centuryMovesNoRetiredOne() {
        Edge.of(31, "each if it can be (a POST is not RETIRED;");
        SignpostYard x = Due.laid("n4;r0,1,1;p0,0,0;p0,1,59;w0,1;");
        x.retire(0);
        for (int town = 0; town < 4; town++) {
            int z = drawn(0, MOVE, 2, 0, 4, town);
            Due.is("retired still by " + z, x.century(z, 1, 1), 1);
            Due.is("it comes without a post by " + z, x.century(z, 1, 0), 1);
        }
    }

    private static void centuryYears() {
        Edge.of(31, "if 2, a YEAR goes by");
        SignpostYard x = Due.laid("n3;r0,1,2;r0,2,1;p0,0,59;p0,0,58;p0,0,0;w0,1;");
        x.retire(2);
        int z = drawn(0, YEAR, 3, 0, 3, 0);
        Due.is("century(" + z + ", 1, 1)", x.century(z, 1, 1), 2);
        Due.is("the other one leads it", x.century(z, 1, 0), 1);
        x.retire(1);
        Due.is("retired", x.century(z, 1, 1), 3);
        Due.is("none leads it", x.century(z, 1, 0), 0);
        Due.is("years", x.count(4), 0);
        Due.is("how old", x.post(0, 2), 59);
    }

    private static void centuryClosesRoads() {
        Edge.of(31, "if 3, the ROAD between that TOWN and the next one (behind the last one the first) is closed");
        SignpostYard x = Due.laid("n5;r0,1,1;r1,2,2;r2,3,3;r3,4,4;r4,0,5;r0,2,9;p0,0,0;w0,1;");
        for (int town = 0; town < 5; town++) {
            int z = drawn(0, ROAD, 1, 0, 5, town);
            Due.is("miles closed by " + z, x.century(z, 1, 2), 24 - (town + 1));
            Due.is("who comes by " + z, x.century(z, 1, 0), town == 0 ? 0 : 1);
        }
    }

    private static void centuryLaysRoads() {
        Edge.of(31, "or laid with (DRAW by 512, cut) modulo 9 and 1 MILES, if there is none");
        SignpostYard x = Due.laid("n8;p0,0,0;w0,1;");
        boolean[] miles = new boolean[10];
        int asked = 0;
        for (int town = 0; town < 8; town++) {
            int z = -1;
            for (int i = 0; i < 40; i++) {
                z = drawn(z + 1, ROAD, 1, 0, 8, town);
                if (z < 0) {
                    break;
                }
                int due = draw(z, 0) / 512 % 9 + 1;
                miles[due] = true;
                asked++;
                Due.is("miles laid by " + z, x.century(z, 1, 2), due);
            }
        }
        Due.holds("enough is asked, but not too much: " + asked, asked > 100 && asked < 450);
        for (int i = 1; i <= 9; i++) {
            Due.holds("a road of " + i + " miles is laid", miles[i]);
        }
    }

    private static void centuryBehindTheLastTown() {
        Edge.of(31, "the next one (behind the last one the first)");
        SignpostYard x = Due.laid("n8;r7,0,9;p0,7,0;w7,0;");
        int z = drawn(0, ROAD, 1, 0, 8, 7);
        Due.is("the last road is closed", x.century(z, 1, 2), 0);
        Due.is("none comes", x.century(z, 1, 0), 0);
        x.lays(7, 0, 0);
        Due.is("the last road is laid", x.century(z, 1, 2), draw(z, 0) / 512 % 9 + 1);
        Due.is("it comes by its arm", x.century(z, 1, 0), 1);
        x.paint(0);
        Due.is("without its arm it does not", x.century(z, 1, 0), 0);
    }

    private static void centuryNothingBySome() {
        Edge.of(31, "then an HOUR goes by");
        SignpostYard x = Due.laid("n4;r0,1,2;r2,0,1;r0,3,1;p0,0,59;w0,1;w2,0;w1,3;");
        for (int act = 4; act < 6; act++) {
            for (int town = 0; town < 4; town++) {
                int z = drawn(0, act, 1, 0, 4, town);
                Due.is("who comes by " + z, x.century(z, 1, 0), 2);
                Due.is("retired by " + z, x.century(z, 1, 1), 0);
                Due.is("miles by " + z, x.century(z, 1, 2), 4);
            }
        }
    }

    private static void centuryHourByHour() {
        Edge.of(31, "then an HOUR goes by");
        SignpostYard x = Due.laid("n4;r0,1,1;r0,2,1;r0,3,1;p3,0,0;w2,1;");
        int z = 0;
        while (act(z, 0) < 4 || act(z, 1) < 4) {
            z++;
        }
        Due.is("it goes to 0 by hour 0", x.century(z, 1, 0), 0);
        Due.is("and asks there by hour 1, when the post is turned", x.century(z, 2, 0), 0);
        x.lays(0, 2, 0);
        x.pass(1);
        x.lays(0, 2, 1);
        Due.is("it goes to 0 by hour 1", x.century(z, 1, 0), 0);
        Due.is("and asks there by hour 2, when it is not", x.century(z, 2, 0), 1);
    }

    private static void centuryOfTwoTowns() {
        Edge.of(31, "TOWN (DRAW by 8, cut) modulo as many");
        SignpostYard x = Due.laid("n2;r0,1,7;p0,0,0;w0,1;");
        for (int town = 0; town < 2; town++) {
            int z = drawn(0, ROAD, 1, 0, 2, town);
            Due.is("the only road is closed by " + z, x.century(z, 1, 2), 0);
        }
        x.lays(0, 1, 0);
        for (int town = 0; town < 2; town++) {
            int z = drawn(0, ROAD, 1, 0, 2, town);
            Due.is("the only road is laid by " + z, x.century(z, 1, 2), draw(z, 0) / 512 % 9 + 1);
        }
    }

    private static void centuryWhoCameAhead() {
        Edge.of(31, "how many WALKERS have come then");
        SignpostYard x = Due.laid("n2;r0,1,1;p0,0,0;w0,1;w1,0;w0,1;w0,1;w0,1;");
        x.pass(1);
        x.lays(0, 1, 0);
        Due.is("all five have come ahead", x.century(drawn(0, 4, 1, 0, 2, 0), 1, 0), 5);
        Due.is("at the end, too", x.century(7, 60, 0), 5);
    }

    private static void centuryChangesNothing() {
        Edge.of(31, "(nothing changes by it)");
        SignpostYard x = RefusedEdges.inUse();
        x.century(0, 60, 0);
        x.century(4321, 60, 1);
        x.century(9999, 60, 2);
        x.likely(0, 5, 0);
        x.likely(3, 10, 1);
        Stand.same("behind them", x, RefusedEdges.inUse());
    }
}
