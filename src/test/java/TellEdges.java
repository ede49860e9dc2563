/** Edges of promises 24 to 29: what is TOLD and SEEN, where a POST STOOD, what to ask NEXT, of which KINDS one is. */
final class TellEdges {
    private static final int BAD = SignpostYard.BAD, FULL = SignpostYard.FULL, NONE = SignpostYard.NONE;
    private static final int LOW = Integer.MIN_VALUE, HIGH = Integer.MAX_VALUE;
    private static final String FORK =
        "n5;r0,1,1;r0,3,1;r0,4,1;r1,2,1;p0,0,0;p1,0,39;p2,0,40;p3,0,59;w1,2;";

    private TellEdges() {
    }

    static void all() {
        toldFewestAndMostMiles();
        toldTooFewOrManyMiles();
        toldOfTownsThereAre();
        toldSix();
        toldBadAheadOfFull();
        stoodWithNothingTold();
        stoodNowhere();
        stoodWhereItPointed();
        stoodForWhereItStands();
        stoodByRoadsAsTheyAre();
        stoodByAll();
        nextOfNone();
        nextOfOne();
        nextOfSeveral();
        nextWithoutTheFirst();
        nextWithoutAnArm();
        nextByMiles();
        nextLast();
        seenOfWhatThereIs();
        seenSix();
        seenBadAheadOfFull();
        seenOfARetiredOne();
        kindsWithNothingSeen();
        kindsOfNone();
        kindsByAge();
        kindsByTheHour();
        kindsAsAllStands();
        kindsRetired();
        kindsOfWhatThereIs();
        forgetNothing();
        forgetAll();
        forgetLeavesTheRest();
    }

    // ---- promise 24

    private static void toldFewestAndMostMiles() {
        Edge.of(24, "POINTED for TOWN y to TOWN u, m (0 to 72) MILES");
        SignpostYard x = new SignpostYard();
        Due.is("told(0, 5, 0)", x.told(0, 5, 0), 1);
        Due.is("told(5, 0, 72)", x.told(5, 0, 72), 2);
        Due.is("told(3, 3, 1), alike", x.told(3, 3, 1), 3);
        Due.is("told(3, 3, 71)", x.told(3, 3, 71), 4);
    }

    private static void toldTooFewOrManyMiles() {
        Edge.of(24, "POINTED for TOWN y to TOWN u, m (0 to 72) MILES");
        SignpostYard x = new SignpostYard();
        int[] bad = {-1, 73, 74, NONE, LOW, HIGH};
        for (int m : bad) {
            Due.is("told(0, 1, " + m + ")", x.told(0, 1, m), BAD);
        }
        Due.is("told", x.count(8), 0);
        Due.is("stood()", x.stood(), 63);
    }

    private static void toldOfTownsThereAre() {
        Edge.of(24, "(TOWNS, POSTS, WALKERS: such as there are)");
        SignpostYard two = Due.laid("n2;p0,0,0;w0,1;");
        int[][] bad = {{0, 2}, {2, 0}, {0, -1}, {-1, 0}, {LOW, 0}, {0, HIGH}, {NONE, NONE}};
        for (int[] one : bad) {
            Due.is("told(" + one[0] + ", " + one[1] + ", 1) of two", two.told(one[0], one[1], 1), BAD);
        }
        Due.is("told(1, 1, 1) of two", two.told(1, 1, 1), 1);
        SignpostYard eight = Due.laid("n8;p0,0,0;w0,1;");
        Due.is("told(7, 7, 1) of eight", eight.told(7, 7, 1), 1);
        Due.is("told(8, 7, 1) of eight", eight.told(8, 7, 1), BAD);
        Due.is("told(7, 8, 1) of eight", eight.told(7, 8, 1), BAD);
    }

    private static void toldSix() {
        Edge.of(24, "TOLD (6 at most)");
        SignpostYard x = new SignpostYard();
        for (int i = 1; i <= 6; i++) {
            Due.is("told() " + i, x.told(3, 4, 6), i);
        }
        Due.is("told() a seventh", x.told(0, 0, 2), FULL);
        Due.is("told() a seventh again", x.told(3, 4, 6), FULL);
        Due.is("told", x.count(8), 6);
        Due.is("the seventh is not told", x.stood(), 32);
        Due.is("seen() is not full by it", x.seen(0, 0, 0), 1);
    }

    private static void toldBadAheadOfFull() {
        Edge.of(24, "TOLD: how many. BAD; FULL.");
        SignpostYard x = new SignpostYard();
        for (int i = 0; i < 6; i++) {
            x.told(0, 0, 0);
        }
        Due.is("told(6, 0, 0)", x.told(6, 0, 0), BAD);
        Due.is("told(0, 6, 0)", x.told(0, 6, 0), BAD);
        Due.is("told(0, 0, 73)", x.told(0, 0, 73), BAD);
        Due.is("told(0, 0, -1)", x.told(0, 0, -1), BAD);
        Due.is("told(0, 0, 72)", x.told(0, 0, 72), FULL);
    }

    // ---- promise 25

    private static void stoodWithNothingTold() {
        Edge.of(25, "TOWNS (bits) such that a PLAIN POST there, PAINTED now, would tell all that is TOLD");
        Due.is("of two towns", Due.laid("n2;p0,0,0;w0,1;").stood(), 3);
        Due.is("of six towns", new SignpostYard().stood(), 63);
        Due.is("of eight towns", Due.laid("n8;p0,0,0;w0,1;").stood(), 255);
    }

    private static void stoodNowhere() {
        Edge.of(25, "TOWNS (bits) such that a PLAIN POST there, PAINTED now, would tell all that is TOLD");
        SignpostYard x = new SignpostYard();
        x.told(3, 4, 6);
        x.told(3, 1, 6);
        Due.is("of two that can't both be", x.stood(), 0);
        SignpostYard none = Due.laid("n2;p0,0,0;w0,1;");
        none.told(1, 1, 0);
        Due.is("without a road", none.stood(), 0);
    }

    private static void stoodWhereItPointed() {
        Edge.of(25, "an old POST, PLAIN, POINTED for TOWN y to TOWN u, m (0 to 72) MILES");
        SignpostYard x = Due.laid("n8;r0,4,1;r4,7,1;r0,1,1;r7,6,1;p2,0,59;w0,1;");
        x.told(4, 4, 1);
        Due.is("the first and the last", x.stood(), 129);
        x.told(6, 4, 3);
        Due.is("the first", x.stood(), 1);
        x.forget();
        x.told(4, 4, 1);
        x.told(6, 6, 1);
        Due.is("the last", x.stood(), 128);
        x.forget();
        x.told(4, 4, 2);
        Due.is("other miles", x.stood(), 0);
        x.forget();
        x.told(4, 0, 2);
        Due.is("another arm", x.stood(), 2);
    }

    private static void stoodForWhereItStands() {
        Edge.of(25, "none, if there is no way, or it stands there");
        SignpostYard x = Due.laid("n3;r0,1,1;p0,0,0;w0,1;");
        x.told(0, 0, 0);
        Due.is("no miles to where it stands", x.stood(), 0);
        x.forget();
        x.told(0, 0, 1);
        Due.is("a mile", x.stood(), 2);
        x.forget();
        x.told(2, 2, 0);
        Due.is("no way", x.stood(), 0);
    }

    private static void stoodByRoadsAsTheyAre() {
        Edge.of(25, "PAINTED now, would tell all that is TOLD");
        SignpostYard x = Due.laid("n3;r0,1,1;r1,2,1;p0,0,0;w0,1;");
        x.told(2, 1, 2);
        Due.is("by two roads", x.stood(), 1);
        x.lays(0, 2, 2);
        Due.is("by one road as far, the lower town is told", x.stood(), 1);
        x.lays(0, 2, 1);
        Due.is("by one road nearer", x.stood(), 0);
        x.undo();
        Due.is("undone", x.stood(), 1);
        x.lays(1, 2, 0);
        Due.is("closed", x.stood(), 0);
    }

    private static void stoodByAll() {
        Edge.of(25, "would tell all that is TOLD");
        SignpostYard x = Due.laid("n3;r0,1,1;r1,2,1;p0,0,0;w0,1;");
        for (int i = 0; i < 5; i++) {
            x.told(1, 1, 1);
        }
        Due.is("of five alike", x.stood(), 5);
        x.told(0, 1, 2);
        Due.is("of the sixth, too", x.stood(), 4);
    }

    // ---- promise 26

    private static void nextOfNone() {
        Edge.of(26, "none (of STOOD there is none)");
        SignpostYard x = new SignpostYard();
        x.told(0, 0, 72);
        Due.is("stood()", x.stood(), 0);
        Due.is("next()", x.next(), NONE);
        x.forget();
        Due.is("next() when nothing is told", x.next() == NONE ? 1 : 0, 0);
    }

    private static void nextOfOne() {
        Edge.of(26, "of several the lowest; none");
        SignpostYard x = new SignpostYard();
        x.told(3, 4, 6);
        Due.is("stood()", x.stood(), 32);
        Due.is("next()", x.next(), 0);
        x = Due.laid("n2;r0,1,1;p0,0,0;w0,1;");
        x.told(0, 0, 1);
        Due.is("next() of two towns", x.next(), 0);
    }

    private static void nextOfSeveral() {
        Edge.of(26, "so that most that are alike are fewest, of several the lowest");
        SignpostYard x = Due.laid("n2;r0,1,1;p0,0,0;w0,1;");
        Due.is("either parts two towns", x.next(), 0);
        x = Due.laid("n4;r1,0,1;r1,2,1;r1,3,1;p0,0,0;w0,1;");
        x.told(1, 1, 1);
        x.told(0, 1, 2);
        Due.is("stood()", x.stood(), 12);
        Due.is("2 and 3 are parted by 2 first", x.next(), 2);
    }

    private static void nextWithoutTheFirst() {
        Edge.of(26, "so that most that are alike are fewest");
        SignpostYard x = Due.laid("n5;r0,1,1;r1,2,1;r1,3,1;r1,4,1;p0,0,0;w0,1;");
        x.told(1, 1, 1);
        Due.is("stood()", x.stood(), 29);
        // 0, 2, 3 and 4; for 0: {0} {2, 3, 4}; for 1: all; for 2: {2} {0, 3, 4}
        Due.is("three are alike by 0 as by 2", x.next(), 0);
        x.lays(1, 4, 9);
        x.forget();
        x.told(1, 1, 1);
        Due.is("stood()", x.stood(), 13);
        Due.is("two are alike by 0 as by 2", x.next(), 0);
        x = Due.laid("n6;r0,5,1;r1,5,1;r2,5,1;r0,4,1;r1,4,1;r3,5,1;p0,0,0;w0,1;");
        x.told(5, 5, 1);
        Due.is("stood()", x.stood(), 15);
        // for 0: {0} {1} {2, 3}; for 1: {0} {1} {2, 3}; for 2: {0, 1, 3} {2}
        Due.is("0 and 1 go to each other by 4", x.next(), 0);
    }

    private static void nextWithoutAnArm() {
        Edge.of(26, "that by whose ARM (none is one, too) and MILES those of STOOD are parted");
        SignpostYard x = Due.laid("n4;r0,3,1;r2,3,1;p0,0,0;w0,3;");
        // for 0: {0, 1} {2} {3}; for 1: all; for 2: {0} {1, 2} {3}; for 3: {0} {1, 3} {2}
        Due.is("being there and no way are alike", x.next(), 0);
        Due.is("no road at all", Due.laid("n8;p0,0,0;w0,1;").next(), 0);
        x = Due.laid("n4;r1,2,1;r2,3,1;p0,0,0;w1,2;");
        Due.is("one to which no way leads parts none", x.next(), 1);
    }

    private static void nextByMiles() {
        Edge.of(26, "that by whose ARM (none is one, too) and MILES those of STOOD are parted");
        // for 0: {0} {1} {2} by miles, without them {0} {1, 2}; for 1: {0} {1} {2}
        Due.is("the miles part them", Due.laid("n3;r0,1,2;r2,0,3;p0,0,0;w0,1;").next(), 0);
        // for 0: {0} {1, 2}
        Due.is("miles alike don't", Due.laid("n3;r0,1,2;r2,0,2;p0,0,0;w0,1;").next(), 1);
    }

    private static void nextLast() {
        Edge.of(26, "NEXT to ask: of TOWNS y");
        SignpostYard x = Due.laid("n8;r7,6,1;p0,0,0;w0,1;");
        // for 0 to 5: all eight; for 6: {0, 1, 2, 3, 4, 5, 6} {7}; for 7: {0, 1, 2, 3, 4, 5, 7} {6}
        Due.is("by 6 or 7 one is parted", x.next(), 6);
        x = Due.laid("n8;r0,1,1;r1,2,1;r1,7,1;p0,0,0;w0,1;");
        x.told(1, 1, 1);
        x.told(0, 1, 2);
        Due.is("stood()", x.stood(), 132);
        Due.is("2 and 7 are parted by 2", x.next(), 2);
    }

    // ---- promise 27

    private static void seenOfWhatThereIs() {
        Edge.of(27, "(TOWNS, POSTS, WALKERS: such as there are)");
        SignpostYard x = Due.laid("n2;p0,0,0;w0,1;");
        int[][] bad = {{1, 0, 0}, {-1, 0, 0}, {0, 2, 0}, {0, -1, 0}, {0, 0, 2}, {0, 0, -1}, {0, 0, NONE},
            {LOW, 0, 0}, {HIGH, 0, 0}, {0, LOW, 0}, {0, HIGH, 0}, {0, 0, LOW}, {0, 0, HIGH}};
        for (int[] one : bad) {
            Due.is("seen(" + one[0] + ", " + one[1] + ", " + one[2] + ")", x.seen(one[0], one[1], one[2]), BAD);
        }
        Due.is("seen", x.count(9), 0);
        Due.is("seen(0, 1, 1)", x.seen(0, 1, 1), 1);
        SignpostYard most = Due.laid("n8;p0,0,0;p0,0,0;p0,0,0;p0,0,0;p0,0,0;p0,0,0;w0,1;");
        Due.is("seen(5, 7, 7) of six", most.seen(5, 7, 7), 1);
        Due.is("seen(6, 7, 7) of six", most.seen(6, 7, 7), BAD);
    }

    private static void seenSix() {
        Edge.of(27, "SEEN (6 at most)");
        SignpostYard x = Due.laid(FORK);
        for (int i = 1; i <= 6; i++) {
            Due.is("seen() " + i, x.seen(0, 2, 1), i);
        }
        Due.is("seen() a seventh", x.seen(0, 2, 4), FULL);
        Due.is("seen() a seventh of another one", x.seen(1, 2, 1), FULL);
        Due.is("seen", x.count(9), 6);
        Due.is("the seventh is not seen", x.kinds(0), 11);
        Due.is("the seventh is not seen of another one", x.kinds(1), 15);
        Due.is("told() is not full by it", x.told(0, 0, 0), 1);
    }

    private static void seenBadAheadOfFull() {
        Edge.of(27, "SEEN: how many. BAD; FULL.");
        SignpostYard x = new SignpostYard();
        for (int i = 0; i < 6; i++) {
            x.seen(4, 5, 5);
        }
        Due.is("seen(5, 0, 0)", x.seen(5, 0, 0), BAD);
        Due.is("seen(0, 6, 0)", x.seen(0, 6, 0), BAD);
        Due.is("seen(0, 0, 6)", x.seen(0, 0, 6), BAD);
        Due.is("seen(0, 0, -1)", x.seen(0, 0, -1), BAD);
        Due.is("seen(0, 0, 0)", x.seen(0, 0, 0), FULL);
    }

    private static void seenOfARetiredOne() {
        Edge.of(27, "(by how all stands when that is asked, not when it was SEEN)");
        SignpostYard x = Due.laid(FORK);
        x.retire(0);
        Due.is("seen() of a retired one", x.seen(0, 2, 1), 1);
        Due.is("kinds(0)", x.kinds(0), 0);
        x.undo();
        Due.is("kinds(0) when it stands again", x.kinds(0), 11);
    }

    // ---- promise 28

    private static void kindsWithNothingSeen() {
        Edge.of(28, "KINDS of one (bits of 0 to 3)");
        SignpostYard x = Due.laid(FORK);
        for (int p = 0; p < 4; p++) {
            Due.is("kinds(" + p + ")", x.kinds(p), 15);
        }
        x.seen(0, 2, 4);
        for (int p = 1; p < 4; p++) {
            Due.is("kinds(" + p + ") of which nothing is seen", x.kinds(p), 15);
        }
        Due.is("kinds(0)", x.kinds(0), 0);
    }

    private static void kindsOfNone() {
        Edge.of(28, "by which all that is SEEN of it would be so");
        SignpostYard x = Due.laid(FORK);
        x.seen(0, 2, 1);
        x.seen(0, 2, 3);
        Due.is("of two that can't both be", x.kinds(0), 0);
        x.seen(1, 0, 0);
        Due.is("it points nowhere for where it stands", x.kinds(1), 0);
        x.seen(2, 2, 2);
        Due.is("it points to no such town", x.kinds(2), 0);
    }

    private static void kindsByAge() {
        Edge.of(28, "in place of its own, by which all that is SEEN of it would be so");
        SignpostYard x = Due.laid(FORK);
        int[] due = {4, 4, 6, 6};
        for (int p = 0; p < 4; p++) {
            x.seen(p, 2, 3);
            Due.is("turned once: kinds(" + p + ")", x.kinds(p), due[p]);
        }
        x.year();
        Due.is("kinds(1) when it is 40", x.kinds(1), 6);
        Due.is("its own kind stays", x.post(1, 0), 1);
    }

    private static void kindsByTheHour() {
        Edge.of(28, "(by how all stands when that is asked, not when it was SEEN)");
        SignpostYard x = Due.laid(FORK);
        x.seen(0, 2, 1);
        x.seen(1, 2, 4);
        Due.is("hour 0: kinds(0)", x.kinds(0), 11);
        Due.is("hour 0: kinds(1)", x.kinds(1), 0);
        x.pass(1);
        Due.is("hour 1: kinds(0)", x.kinds(0), 3);
        Due.is("hour 1: kinds(1)", x.kinds(1), 8);
        x.pass(1);
        Due.is("hour 2: kinds(0)", x.kinds(0), 11);
        Due.is("hour 2: kinds(1)", x.kinds(1), 0);
    }

    private static void kindsAsAllStands() {
        Edge.of(28, "SEEN (6 at most) is that a POST, as all is now, POINTS for TOWN y to TOWN u");
        SignpostYard x = Due.laid(FORK);
        x.seen(0, 2, 1);
        x.lays(0, 3, 0);
        x.lays(0, 4, 0);
        Due.is("one road: all lead to it", x.kinds(0), 15);
        x.lays(0, 1, 0);
        Due.is("no road: turned nowhere", x.kinds(0), 11);
        x.lays(0, 2, 1);
        x.paint(0);
        Due.is("painted anew", x.kinds(0), 0);
    }

    private static void kindsRetired() {
        Edge.of(28, "(of a RETIRED one, of which something is SEEN, none)");
        SignpostYard x = Due.laid(FORK);
        x.seen(0, 2, 1);
        x.seen(3, 2, 3);
        x.retire(0);
        x.retire(1);
        x.year();
        Due.is("kinds(0) retired, seen", x.kinds(0), 0);
        Due.is("kinds(1) retired, nothing seen", x.kinds(1), 15);
        Due.is("kinds(3) of 60, seen", x.kinds(3), 0);
        x.forget();
        Due.is("kinds(0) retired, forgotten", x.kinds(0), 15);
    }

    private static void kindsOfWhatThereIs() {
        Edge.of(28, "KINDS, as bits. BAD.");
        SignpostYard x = new SignpostYard();
        int[] bad = {5, -1, 6, LOW, HIGH, NONE};
        for (int p : bad) {
            Due.is("kinds(" + p + ")", x.kinds(p), BAD);
        }
        Due.is("kinds(4)", x.kinds(4), 15);
        Due.is("kinds(1) of one", Due.laid("n2;p0,0,0;w0,1;").kinds(1), BAD);
    }

    // ---- promise 29

    private static void forgetNothing() {
        Edge.of(29, "Nothing is TOLD, nothing SEEN: how many were, together");
        SignpostYard x = new SignpostYard();
        Due.is("forget()", x.forget(), 0);
        Due.is("forget() again", x.forget(), 0);
        Stand.same("behind them", x, new SignpostYard());
    }

    private static void forgetAll() {
        Edge.of(29, "Nothing is TOLD, nothing SEEN: how many were, together");
        SignpostYard x = new SignpostYard();
        for (int i = 0; i < 7; i++) {
            x.told(0, 0, 72);
            x.seen(0, 0, 5);
        }
        Due.is("forget() of six and six", x.forget(), 12);
        Stand.same("behind it", x, new SignpostYard());
        x = new SignpostYard();
        x.told(0, 0, 72);
        Due.is("forget() of one told", x.forget(), 1);
        x.seen(0, 0, 5);
        Due.is("forget() of one seen", x.forget(), 1);
        Due.is("told() is the first again", x.told(0, 0, 2), 1);
        Due.is("only that is told", x.stood(), 2);
    }

    private static void forgetLeavesTheRest() {
        Edge.of(29, "Nothing is TOLD, nothing SEEN");
        SignpostYard x = new SignpostYard();
        x.write('n');
        x.year();
        x.keep();
        x.told(0, 0, 0);
        x.forget();
        int[] due = {0, 1, 0, 0, 0, 1, 1, 1};
        int[] what = {3, 4, 8, 9, 7, 10, 11, 12};
        for (int i = 0; i < what.length; i++) {
            Due.is("count(" + what[i] + ")", x.count(what[i]), due[i]);
        }
    }
}
