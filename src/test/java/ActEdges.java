/** Edges of promises 10 to 16: HOURS, YEARS, ROADS laid and closed, POSTS painted, moved, RETIRED, and UNDONE. */
final class ActEdges {
    private static final int BAD = SignpostYard.BAD, NO = SignpostYard.NO, NONE = SignpostYard.NONE;
    private static final int LOW = Integer.MIN_VALUE, HIGH = Integer.MAX_VALUE;

    private ActEdges() {
    }

    static void all() {
        passFewestAndMost();
        passTooFewOrMany();
        passToTheLastHour();
        passBeyondTheLastHour();
        passBadAheadOfNo();
        hourOfOneWhoIsThere();
        hourOfTheLowestPost();
        hourOfAPostThatPointsNowhere();
        hourWithoutARoadThere();
        hourOfARetiredPost();
        hourAlongTheShortest();
        hourAlongNone();
        hourAsItIs();
        hoursOneByOne();
        yearOf60();
        yearOfSeveral();
        yearOfNone();
        yearOfRetiredOnes();
        yearOfWornOnes();
        laysFewestAndMost();
        laysTooFewOrMany();
        laysClosed();
        laysChanged();
        laysAlike();
        laysOfTownsThereAre();
        paintCounts();
        paintOfTheMoved();
        paintRetired();
        paintOfWhatThereIs();
        moveToTheLast();
        moveWhereItIs();
        moveRetired();
        moveOfWhatThereIs();
        moveBadAheadOfNo();
        retireAgain();
        retireOfSixty();
        retireOfWhatThereIs();
        undoNothing();
        undoEachAct();
        undoAllOfOneCall();
        undoWhatChangedNothing();
        undoTheLastEight();
        undoRoundAndRound();
        undoNotWhatWasRefused();
        undoNotWhatWasAsked();
        undoYears();
        undoLeavesWhatIsNoAct();
    }

    // ---- promise 10

    private static void passFewestAndMost() {
        Edge.of(10, "n (1 to 20) HOURS go by: which it is");
        SignpostYard x = new SignpostYard();
        Due.is("pass(1)", x.pass(1), 1);
        Due.is("pass(20)", x.pass(20), 21);
        Due.is("count(3)", x.count(3), 21);
        Due.is("pass(19)", x.pass(19), 40);
        Due.is("pass(2)", x.pass(2), 42);
    }

    private static void passTooFewOrMany() {
        Edge.of(10, "n (1 to 20) HOURS go by: which it is. BAD;");
        SignpostYard x = new SignpostYard();
        int[] bad = {0, 21, -1, -20, 22, 999, LOW, HIGH, HIGH - 20};
        for (int n : bad) {
            Due.is("pass(" + n + ")", x.pass(n), BAD);
        }
        Stand.same("behind them", x, new SignpostYard());
    }

    private static SignpostYard atHour(int hour) {
        SignpostYard x = new SignpostYard();
        for (int left = hour; left > 0; left -= 20) {
            x.pass(Math.min(left, 20));
        }
        Due.is("count(3)", x.count(3), hour);
        return x;
    }

    private static void passToTheLastHour() {
        Edge.of(10, "NO: it would be above 999");
        Due.is("pass(1) to 999", atHour(998).pass(1), 999);
        Due.is("pass(20) to 999", atHour(979).pass(20), 999);
        Due.is("pass(19) to 999", atHour(980).pass(19), 999);
    }

    private static void passBeyondTheLastHour() {
        Edge.of(10, "NO: it would be above 999");
        Due.is("pass(1) to 1000", atHour(999).pass(1), NO);
        Due.is("pass(20) to 1019", atHour(999).pass(20), NO);
        Due.is("pass(2) to 1000", atHour(998).pass(2), NO);
        SignpostYard x = atHour(980);
        Due.is("pass(20) to 1000", x.pass(20), NO);
        Due.is("count(3)", x.count(3), 980);
        Due.is("none of its hours went by", x.pass(19), 999);
        Due.is("pass(1) to 1000", x.pass(1), NO);
        x.undo();
        Due.is("undone, there is room again", x.pass(1), 981);
    }

    private static void passBadAheadOfNo() {
        Edge.of(10, "Of several the first in this order; nothing changes then");
        SignpostYard x = atHour(999);
        Due.is("pass(21)", x.pass(21), BAD);
        Due.is("pass(0)", x.pass(0), BAD);
        Due.is("pass(-1)", x.pass(-1), BAD);
        Due.is("pass(HIGH)", x.pass(HIGH), BAD);
        Stand.same("behind them", x, atHour(999));
    }

    private static void goes(SignpostYard x, int w, int due) {
        Due.is("trail(" + w + ", 1)", x.trail(w, 1), due);
        x.pass(1);
        Due.is("walker(" + w + ", 0)", x.walker(w, 0), due);
        x.undo();
    }

    private static void hourOfOneWhoIsThere() {
        Edge.of(10, "each WALKER who is not where that one would be");
        SignpostYard x = Due.laid("n3;r0,1,1;r1,2,1;p2,1,0;w0,1;w1,0;");
        x.pass(1);
        Due.is("who came", x.walker(0, 0), 1);
        Due.is("who did not", x.walker(1, 0), 2);
        x.pass(20);
        Due.is("who came stays", x.walker(0, 0), 1);
    }

    private static void hourOfTheLowestPost() {
        Edge.of(10, "where POSTS stand it asks the lowest one");
        SignpostYard x = Due.laid("n4;r0,1,1;r0,2,1;r0,3,1;p0,1,0;p2,0,0;p0,0,0;w0,1;");
        goes(x, 0, 2);
        x.move(0, 0);
        // moved from 1 its arm for where it stood is none
        goes(x, 0, 0);
        x.paint(0);
        goes(x, 0, 1);
    }

    private static void hourOfAPostThatPointsNowhere() {
        Edge.of(10, "it goes where that one POINTS, if a ROAD leads there, else it stays");
        SignpostYard x = Due.laid("n3;p0,0,0;p0,0,0;w0,2;");
        x.lays(0, 2, 1);
        x.paint(1);
        goes(x, 0, 0);
        x.retire(0);
        goes(x, 0, 2);
    }

    private static void hourWithoutARoadThere() {
        Edge.of(10, "it goes where that one POINTS, if a ROAD leads there, else it stays");
        SignpostYard x = Due.laid("n4;r0,1,1;r1,3,1;r0,2,9;p0,0,0;w0,3;");
        goes(x, 0, 1);
        x.lays(0, 1, 0);
        goes(x, 0, 0);
        x.lays(0, 1, 9);
        goes(x, 0, 1);
        x = Due.laid("n4;r0,1,1;r1,3,1;p0,0,0;w1,3;");
        x.move(0, 1);
        // it points to where it stands
        goes(x, 0, 1);
    }

    private static void hourOfARetiredPost() {
        Edge.of(10, "it stands nowhere any more, and has no ARMS");
        SignpostYard x = Due.laid("n4;r0,1,3;r0,2,2;r0,3,1;p0,0,59;p2,0,0;w0,1;");
        goes(x, 0, 1);
        x.year();
        goes(x, 0, 2);
        x.retire(1);
        goes(x, 0, 3);
    }

    private static void hourAlongTheShortest() {
        Edge.of(10, "Where none stands it goes along the shortest ROAD, of several to the lowest TOWN");
        SignpostYard x = Due.laid("n8;r0,1,3;r0,2,2;r0,3,2;r0,7,2;p0,7,0;w0,1;w0,7;");
        goes(x, 0, 2);
        goes(x, 1, 2);
        x.lays(0, 2, 0);
        goes(x, 0, 3);
        x.lays(0, 7, 1);
        goes(x, 0, 7);
        x.lays(0, 1, 1);
        goes(x, 1, 1);
    }

    private static void hourAlongNone() {
        Edge.of(10, "if there is none it stays");
        SignpostYard x = Due.laid("n3;r0,1,1;p0,0,0;w2,1;w1,2;");
        goes(x, 0, 2);
        goes(x, 1, 0);
        x.pass(20);
        Due.is("walker(0, 0)", x.walker(0, 0), 2);
    }

    private static void hourAsItIs() {
        Edge.of(10, "All by the HOUR as it is; then it is one more");
        SignpostYard x = Due.laid("n4;r0,1,1;r0,2,1;r0,3,1;p3,0,0;w0,1;");
        goes(x, 0, 1);
        x.lays(0, 1, 0);
        goes(x, 0, 0);
        x.pass(1);
        goes(x, 0, 3);
        x.pass(2);
        Due.is("walker(0, 0) by hour 1 went to 3, by hour 2 from there", x.walker(0, 0), 0);
    }

    private static void hoursOneByOne() {
        Edge.of(10, "n (1 to 20) HOURS go by");
        String text = "n8;r5,4,7;r4,0,3;r3,5,4;r0,1,2;r0,6,7;r2,1,6;r4,7,4;r4,6,9;r2,3,6;r0,2,8;"
            + "p2,0,0;p2,3,0;p3,6,0;p3,1,0;p3,4,0;p3,1,0;w0,7;w1,7;w2,7;w3,7;w5,7;";
        for (int n = 1; n <= 20; n++) {
            SignpostYard x = Due.laid(text);
            SignpostYard y = Due.laid(text);
            x.pass(n);
            for (int i = 0; i < n; i++) {
                y.pass(1);
            }
            for (int w = 0; w < 5; w++) {
                Due.is("behind " + n + " hours walker(" + w + ", 0)", x.walker(w, 0), y.walker(w, 0));
            }
        }
    }

    // ---- promise 11

    private static void yearOf60() {
        Edge.of(11, "one that is 60 then is RETIRED");
        SignpostYard x = Due.laid("n2;r0,1,1;p0,0,59;p0,1,58;w0,1;");
        Due.is("year()", x.year(), 1);
        Due.is("the one of 60", x.post(0, 1), NONE);
        Due.is("the one of 59", x.post(1, 1), 1);
        Due.is("the one of 59 has its arm", x.arm(1, 0, 0), 0);
        Due.is("retired", x.count(6), 1);
        Due.is("years", x.count(4), 1);
    }

    private static void yearOfSeveral() {
        Edge.of(11, "how many POSTS are RETIRED by it");
        SignpostYard x = Due.laid("n2;p0,0,59;p1,0,59;p2,0,59;p3,0,59;p0,1,59;p1,1,59;w0,1;");
        Due.is("year() of all six", x.year(), 6);
        Due.is("retired", x.count(6), 6);
        x.undo();
        x.retire(2);
        x.retire(5);
        Due.is("year() of four, two being retired", x.year(), 4);
        Due.is("retired", x.count(6), 6);
    }

    private static void yearOfNone() {
        Edge.of(11, "how many POSTS are RETIRED by it");
        SignpostYard x = Due.laid("n2;p0,0,0;w0,1;");
        for (int i = 1; i < 60; i++) {
            Due.is("year() " + i, x.year(), 0);
        }
        Due.is("how old", x.post(0, 2), 59);
        Due.is("year() 60", x.year(), 1);
        Due.is("year() 61", x.year(), 0);
        Due.is("years", x.count(4), 61);
    }

    private static void yearOfRetiredOnes() {
        Edge.of(11, "each POST that is not RETIRED is a YEAR older");
        SignpostYard x = Due.laid("n2;p0,0,59;p0,0,59;p0,0,0;w0,1;");
        x.retire(0);
        x.retire(2);
        Due.is("year()", x.year(), 1);
        Due.is("year() again", x.year(), 0);
        Due.is("retired at 59", x.post(0, 2), 59);
        Due.is("retired at 60", x.post(1, 2), 60);
        Due.is("retired at 0", x.post(2, 2), 0);
    }

    private static void yearOfWornOnes() {
        Edge.of(11, "By a YEAR each POST that is not RETIRED is a YEAR older");
        SignpostYard x = Due.laid("n3;r0,1,1;r0,2,1;p1,0,38;w0,1;");
        int[] due = {1, 1, 2, 2};
        for (int i = 0; i < due.length; i++) {
            goes(x, 0, due[i]);
            x.year();
        }
        Due.is("hours", x.count(3), 0);
    }

    // ---- promise 12

    private static void laysFewestAndMost() {
        Edge.of(12, "A ROAD is laid with l (1 to 9) MILES, or closed (0)");
        SignpostYard x = new SignpostYard();
        Due.is("lays(0, 2, 1)", x.lays(0, 2, 1), 0);
        Due.is("road(0, 2)", x.road(0, 2), 1);
        Due.is("lays(0, 2, 9)", x.lays(0, 2, 9), 1);
        Due.is("road(2, 0)", x.road(2, 0), 9);
        Due.is("lays(2, 0, 0)", x.lays(2, 0, 0), 9);
        Due.is("road(0, 2) closed", x.road(0, 2), NONE);
        Due.is("roads", x.count(5), 7);
    }

    private static void laysTooFewOrMany() {
        Edge.of(12, "A ROAD is laid with l (1 to 9) MILES, or closed (0): how many MILES it had (0: none). BAD");
        SignpostYard x = new SignpostYard();
        int[] bad = {-1, 10, -9, 11, 256, LOW, HIGH};
        for (int l : bad) {
            Due.is("lays(0, 1, " + l + ")", x.lays(0, 1, l), BAD);
        }
        Stand.same("behind them", x, new SignpostYard());
    }

    private static void laysClosed() {
        Edge.of(12, "how many MILES it had (0: none)");
        SignpostYard x = new SignpostYard();
        Due.is("lays(0, 2, 0) of none", x.lays(0, 2, 0), 0);
        Due.is("lays(0, 1, 0)", x.lays(0, 1, 0), 2);
        Due.is("lays(0, 1, 0) again", x.lays(0, 1, 0), 0);
        Due.is("roads", x.count(5), 6);
        Due.is("what can be undone", x.count(10), 3);
    }

    private static void laysChanged() {
        Edge.of(12, "A ROAD is laid (MILES are changed, too) or closed");
        SignpostYard x = new SignpostYard();
        Due.is("lays(1, 0, 9)", x.lays(1, 0, 9), 2);
        Due.is("lays(0, 1, 9) as it is", x.lays(0, 1, 9), 9);
        Due.is("far(0, 1)", x.far(0, 1), 9);
        Due.is("roads", x.count(5), 7);
        Due.is("the arm stays", x.arm(0, 2, 0), 1);
        Due.is("its miles stay", x.arm(0, 2, 1), 5);
    }

    private static void laysAlike() {
        Edge.of(12, "BAD (alike, too)");
        SignpostYard x = new SignpostYard();
        Due.is("lays(0, 0, 1)", x.lays(0, 0, 1), BAD);
        Due.is("lays(5, 5, 9)", x.lays(5, 5, 9), BAD);
        Due.is("lays(3, 3, 0)", x.lays(3, 3, 0), BAD);
        Stand.same("behind them", x, new SignpostYard());
    }

    private static void laysOfTownsThereAre() {
        Edge.of(12, "(TOWNS, POSTS, WALKERS: such as there are)");
        SignpostYard two = Due.laid("n2;p0,0,0;w0,1;");
        Due.is("lays(1, 0, 9) of two", two.lays(1, 0, 9), 0);
        Due.is("lays(0, 2, 1) of two", two.lays(0, 2, 1), BAD);
        Due.is("lays(2, 0, 1) of two", two.lays(2, 0, 1), BAD);
        Due.is("lays(0, -1, 1) of two", two.lays(0, -1, 1), BAD);
        Due.is("lays(-1, 0, 1) of two", two.lays(-1, 0, 1), BAD);
        SignpostYard eight = Due.laid("n8;p0,0,0;w0,1;");
        Due.is("lays(7, 0, 9) of eight", eight.lays(7, 0, 9), 0);
        Due.is("lays(0, 7, 8) of eight", eight.lays(0, 7, 8), 9);
        Due.is("lays(8, 0, 9) of eight", eight.lays(8, 0, 9), BAD);
        Due.is("lays(0, 8, 9) of eight", eight.lays(0, 8, 9), BAD);
    }

    // ---- promise 13

    private static void paintCounts() {
        Edge.of(13, "PAINTED: how many ARMS it has");
        SignpostYard x = Due.laid("n8;p0,7,0;w0,1;");
        Due.is("no road", x.paint(0), 0);
        x.lays(7, 0, 9);
        Due.is("one road", x.paint(0), 1);
        for (int t = 0; t < 6; t++) {
            x.lays(t, t + 1, 9);
            Due.is("a road more", x.paint(0), t + 2);
        }
        Due.is("the farthest", x.arm(0, 6, 1), 63);
        x.lays(7, 0, 0);
        Due.is("no road again", x.paint(0), 0);
        Due.is("no arm is left", x.arm(0, 6, 0), NONE);
    }

    private static void paintOfTheMoved() {
        Edge.of(13, "the next TOWN of the PATH there from where it stands");
        SignpostYard x = Due.laid("n3;r0,1,1;r1,2,1;p0,0,0;w0,2;");
        x.move(0, 1);
        Due.is("paint(0)", x.paint(0), 2);
        int[] due = {0, NONE, 2};
        for (int y = 0; y < 3; y++) {
            Due.is("arm(0, " + y + ", 0)", x.arm(0, y, 0), due[y]);
        }
    }

    private static void paintRetired() {
        Edge.of(13, "BAD; NO: RETIRED");
        SignpostYard x = Due.laid("n2;r0,1,1;p0,0,59;p0,1,0;p0,1,0;w0,1;");
        x.year();
        x.retire(1);
        Due.is("paint(0) of 60", x.paint(0), NO);
        Due.is("paint(1) retired", x.paint(1), NO);
        Due.is("paint(2)", x.paint(2), 1);
        Due.is("paint(3)", x.paint(3), BAD);
        Due.is("no arm by it", x.arm(0, 1, 0), NONE);
    }

    private static void paintOfWhatThereIs() {
        Edge.of(13, "(TOWNS, POSTS, WALKERS: such as there are)");
        SignpostYard one = Due.laid("n2;p0,0,0;w0,1;");
        Due.is("paint(1) of one", one.paint(1), BAD);
        Due.is("paint(-1) of one", one.paint(-1), BAD);
        SignpostYard six = Due.laid("n2;r0,1,1;p0,0,0;p0,0,0;p0,0,0;p0,0,0;p0,0,0;p0,0,0;w0,1;");
        Due.is("paint(5) of six", six.paint(5), 1);
        Due.is("paint(6) of six", six.paint(6), BAD);
        Due.is("paint(7) of six", six.paint(7), BAD);
        Due.is("paint(LOW) of six", six.paint(LOW), BAD);
        Due.is("paint(HIGH) of six", six.paint(HIGH), BAD);
    }

    // ---- promise 14

    private static void moveToTheLast() {
        Edge.of(14, "Moved: where it was");
        SignpostYard x = Due.laid("n8;p0,0,0;p0,0,0;p0,0,0;p0,0,0;p0,0,0;p0,7,0;w0,1;");
        Due.is("move(5, 0)", x.move(5, 0), 7);
        Due.is("move(5, 7)", x.move(5, 7), 0);
        Due.is("move(0, 7)", x.move(0, 7), 0);
        Due.is("post(0, 1)", x.post(0, 1), 7);
        Due.is("post(5, 1)", x.post(5, 1), 7);
    }

    private static void moveWhereItIs() {
        Edge.of(14, "NO: RETIRED, it is there");
        SignpostYard x = new SignpostYard();
        Due.is("move(0, 0)", x.move(0, 0), NO);
        Due.is("move(4, 5)", x.move(4, 5), NO);
        Stand.same("behind them", x, new SignpostYard());
    }

    private static void moveRetired() {
        Edge.of(14, "NO: RETIRED, it is there");
        SignpostYard x = Due.laid("n2;p0,0,59;p0,1,0;w0,1;");
        x.year();
        x.retire(1);
        for (int p = 0; p < 2; p++) {
            Due.is("move(" + p + ", 0)", x.move(p, 0), NO);
            Due.is("move(" + p + ", 1)", x.move(p, 1), NO);
            Due.is("post(" + p + ", 1)", x.post(p, 1), NONE);
        }
        Due.is("what can be undone", x.count(10), 2);
    }

    private static void moveOfWhatThereIs() {
        Edge.of(14, "(TOWNS, POSTS, WALKERS: such as there are)");
        SignpostYard x = Due.laid("n2;p0,0,0;w0,1;");
        int[][] bad = {{1, 1}, {-1, 1}, {0, 2}, {0, -1}, {LOW, HIGH}, {HIGH, LOW}, {0, NONE}};
        for (int[] one : bad) {
            Due.is("move(" + one[0] + ", " + one[1] + ")", x.move(one[0], one[1]), BAD);
        }
        Due.is("move(0, 1)", x.move(0, 1), 0);
    }

    private static void moveBadAheadOfNo() {
        Edge.of(14, "Of several the first in this order; nothing changes then");
        SignpostYard x = Due.laid("n2;p0,0,0;w0,1;");
        x.retire(0);
        Due.is("move(0, 2) retired", x.move(0, 2), BAD);
        Due.is("move(0, -1) retired", x.move(0, -1), BAD);
        Due.is("move(0, NONE) retired", x.move(0, NONE), BAD);
        Due.is("move(1, 0)", x.move(1, 0), BAD);
        Due.is("move(0, 0) retired", x.move(0, 0), NO);
    }

    // ---- promise 15

    private static void retireAgain() {
        Edge.of(15, "RETIRED: where it was. BAD; NO: it is.");
        SignpostYard x = new SignpostYard();
        Due.is("retire(4)", x.retire(4), 5);
        Due.is("retire(4) again", x.retire(4), NO);
        Due.is("retire(0)", x.retire(0), 0);
        Due.is("retire(0) again", x.retire(0), NO);
        Due.is("what can be undone", x.count(10), 2);
        Due.is("retired", x.count(6), 2);
        x.undo();
        Due.is("retire(0) undone", x.retire(0), 0);
    }

    private static void retireOfSixty() {
        Edge.of(15, "BAD; NO: it is.");
        SignpostYard x = Due.laid("n2;p0,0,59;w0,1;");
        x.year();
        Due.is("retire(0) of 60", x.retire(0), NO);
        x.undo();
        Due.is("retire(0) of 59", x.retire(0), 0);
        Due.is("it is told as old as it was", x.post(0, 2), 59);
    }

    private static void retireOfWhatThereIs() {
        Edge.of(15, "(TOWNS, POSTS, WALKERS: such as there are)");
        SignpostYard one = Due.laid("n2;p0,1,0;w0,1;");
        Due.is("retire(1) of one", one.retire(1), BAD);
        Due.is("retire(-1) of one", one.retire(-1), BAD);
        Due.is("retire(LOW) of one", one.retire(LOW), BAD);
        Due.is("retire(HIGH) of one", one.retire(HIGH), BAD);
        Due.is("retire(0) of one", one.retire(0), 1);
        SignpostYard six = Due.laid("n2;p0,0,0;p0,0,0;p0,0,0;p0,0,0;p0,0,0;p0,1,0;w0,1;");
        Due.is("retire(6) of six", six.retire(6), BAD);
        Due.is("retire(5) of six", six.retire(5), 1);
    }

    // ---- promise 16

    private static void undoNothing() {
        Edge.of(16, "UNDONE: how many more can be. NO.");
        SignpostYard x = new SignpostYard();
        Due.is("undo() of a new one", x.undo(), NO);
        x.year();
        Due.is("undo() of one", x.undo(), 0);
        Due.is("undo() of none", x.undo(), NO);
        Due.is("undo() of none again", x.undo(), NO);
        Stand.same("behind them", x, new SignpostYard());
    }

    /** An act that can be done, and undone. */
    private interface Act {
        int on(SignpostYard x);
    }

    private static void undone(String name, Act act) {
        SignpostYard x = RefusedEdges.inUse();
        int could = x.count(10);
        Due.holds(name + " is done", act.on(x) >= 0);
        Due.is("what can be undone behind " + name, x.count(10), could + 1);
        Due.is("undo() of " + name, x.undo(), could);
        Stand.same(name + " undone", x, RefusedEdges.inUse());
    }

    private static void undoEachAct() {
        Edge.of(16, "UNDONE is the latest of these");
        undone("pass(1)", x -> x.pass(1));
        undone("pass(20)", x -> x.pass(20));
        undone("year()", x -> x.year());
        undone("lays(0, 2, 9)", x -> x.lays(0, 2, 9));
        undone("lays(0, 1, 9)", x -> x.lays(0, 1, 9));
        undone("lays(0, 1, 0)", x -> x.lays(0, 1, 0));
        undone("paint(1)", x -> x.paint(1));
        undone("move(0, 4)", x -> x.move(0, 4));
        undone("retire(0)", x -> x.retire(0));
    }

    private static void undoAllOfOneCall() {
        Edge.of(16, "(all of one call at once;");
        SignpostYard x = new SignpostYard();
        x.pass(20);
        Due.is("undo() of twenty hours", x.undo(), 0);
        Stand.same("behind twenty hours undone", x, new SignpostYard());
        x = Due.laid("n2;r0,1,1;p0,0,59;p0,1,59;p1,1,58;w0,1;");
        x.year();
        Due.is("undo() of a year that retired two", x.undo(), 0);
        Stand.same("behind a year undone", x, Due.laid("n2;r0,1,1;p0,0,59;p0,1,59;p1,1,58;w0,1;"));
    }

    private static void undoWhatChangedNothing() {
        Edge.of(16, "such by which nothing becomes another, too;");
        SignpostYard x = Due.laid("n3;r0,1,1;p0,0,0;w2,1;");
        x.paint(0);
        Due.is("painted as it was", x.count(10), 1);
        x.lays(0, 1, 1);
        Due.is("a road as it was", x.count(10), 2);
        x.lays(0, 2, 0);
        Due.is("a road closed that was none", x.count(10), 3);
        x.pass(1);
        Due.is("an hour in which none went", x.count(10), 4);
        x.retire(0);
        x.year();
        Due.is("a year with no post", x.count(10), 6);
        Due.is("undo() the year", x.undo(), 5);
        Due.is("undo() the retiring", x.undo(), 4);
        Due.is("undo() the hour", x.undo(), 3);
        Due.is("undo() the closing", x.undo(), 2);
        Due.is("undo() the road", x.undo(), 1);
        Due.is("undo() the paint", x.undo(), 0);
    }

    private static void undoTheLastEight() {
        Edge.of(16, "the last 8 can be");
        SignpostYard x = new SignpostYard();
        for (int i = 1; i <= 9; i++) {
            x.pass(i);
            Due.is("count(10) behind " + i, x.count(10), Math.min(i, 8));
        }
        int hour = 45;
        for (int i = 9; i > 1; i--) {
            Due.is("undo() of " + i + " hours", x.undo(), i - 2);
            hour -= i;
            Due.is("the hour", x.count(3), hour);
        }
        Due.is("undo() of the first", x.undo(), NO);
        Due.is("the first hour stays", x.count(3), 1);
    }

    private static void undoRoundAndRound() {
        Edge.of(16, "the last 8 can be");
        SignpostYard x = new SignpostYard();
        int hour = 0;
        for (int round = 0; round < 12; round++) {
            for (int i = 0; i < 5; i++) {
                hour++;
                x.pass(1);
            }
            for (int i = 0; i < 3; i++) {
                hour--;
                x.undo();
                Due.is("round " + round + ", the hour undone", x.count(3), hour);
            }
        }
        Due.is("what can be undone", x.count(10), 5);
        for (int i = 4; i >= 0; i--) {
            hour--;
            Due.is("undo()", x.undo(), i);
            Due.is("the hour", x.count(3), hour);
        }
        Due.is("undo() no more", x.undo(), NO);
    }

    private static void undoNotWhatWasRefused() {
        Edge.of(16, "nothing changes then");
        SignpostYard x = new SignpostYard();
        x.pass(0);
        x.pass(21);
        x.lays(0, 0, 1);
        x.lays(0, 1, 10);
        x.paint(5);
        x.move(0, 0);
        x.move(0, 6);
        x.retire(-1);
        x.undo();
        x.lay();
        x.back();
        Due.is("count(10)", x.count(10), 0);
        Due.is("undo()", x.undo(), NO);
    }

    private static void undoNotWhatWasAsked() {
        Edge.of(16, "UNDONE is the latest of these, of HOURS, of YEARS");
        SignpostYard x = new SignpostYard();
        x.comes(0);
        x.trail(0, 40);
        x.lost();
        x.helps(0);
        x.paints(0);
        x.cover(0);
        x.likely(0, 5, 0);
        x.century(1, 60, 0);
        x.told(0, 0, 0);
        x.seen(0, 0, 0);
        x.forget();
        x.keep();
        x.write('n');
        x.wipe();
        Due.is("count(10)", x.count(10), 0);
        Due.is("undo()", x.undo(), NO);
    }

    private static void undoYears() {
        Edge.of(16, "UNDONE is the latest of these, of HOURS, of YEARS");
        SignpostYard x = Due.laid("n3;r0,1,1;r0,2,1;p1,0,39;p0,0,58;w0,1;");
        x.year();
        x.year();
        Due.is("retired", x.count(6), 1);
        Due.is("undo()", x.undo(), 1);
        Due.is("how old", x.post(1, 2), 59);
        Due.is("where", x.post(1, 1), 0);
        Due.is("its arm", x.arm(1, 2, 0), 2);
        Due.is("undo()", x.undo(), 0);
        Due.is("years", x.count(4), 0);
        Due.is("not 40 yet", x.arm(0, 1, 2), 1);
    }

    private static void undoLeavesWhatIsNoAct() {
        Edge.of(16, "UNDONE is the latest of these, of HOURS, of YEARS");
        SignpostYard x = new SignpostYard();
        x.year();
        x.told(3, 4, 6);
        x.seen(0, 3, 1);
        x.keep();
        x.write('n');
        Due.is("undo()", x.undo(), 0);
        int[] due = {1, 1, 0, 1, 1};
        for (int what = 8; what <= 12; what++) {
            Due.is("count(" + what + ")", x.count(what), due[what - 8]);
        }
        Due.is("what is told", x.stood(), 32);
        Due.is("what is seen", x.kinds(0), 11);
        x.back();
        Due.is("what is kept", x.count(4), 1);
    }
}
