/** Edges of promises 32 to 34: what is KEPT, gone back to, and counted. */
final class KeepEdges {
    private static final int BAD = SignpostYard.BAD, NO = SignpostYard.NO;
    private static final int FULL = SignpostYard.FULL, NONE = SignpostYard.NONE;
    private static final int LOW = Integer.MIN_VALUE, HIGH = Integer.MAX_VALUE;

    private KeepEdges() {
    }

    static void all() {
        keepTwo();
        keepFullChangesNothing();
        keepAll();
        keepIsNoAct();
        backToNothing();
        backToTheLast();
        backMakesRoom();
        backLeavesNothingUndone();
        backToMuchElse();
        backLeavesTheTextAndWhatIsTold();
        backBehindLay();
        keptStaysWhenUndone();
        countFewest();
        countMost();
        countOnlyTold();
        countOfRoads();
        countOfRetiredOnes();
        countOfWhoCame();
    }

    // ---- promise 32

    private static void keepTwo() {
        Edge.of(32, "2 at most");
        SignpostYard x = new SignpostYard();
        Due.is("count(11)", x.count(11), 0);
        Due.is("keep()", x.keep(), 1);
        Due.is("keep() a second", x.keep(), 2);
        Due.is("keep() a third", x.keep(), FULL);
        Due.is("keep() a fourth", x.keep(), FULL);
        Due.is("count(11)", x.count(11), 2);
    }

    private static void keepFullChangesNothing() {
        Edge.of(32, "KEPT: how many. FULL.");
        SignpostYard x = new SignpostYard();
        x.keep();
        x.pass(1);
        x.keep();
        x.pass(2);
        Due.is("keep() a third", x.keep(), FULL);
        x.pass(3);
        Due.is("back()", x.back(), 1);
        Due.is("the second's hour", x.count(3), 1);
        Due.is("back() again", x.back(), 0);
        Due.is("the first's hour", x.count(3), 0);
    }

    private static void keepAll() {
        Edge.of(32, "KEPT is all as it stands");
        String text = "n8;r0,7,9;r7,3,1;p0,0,59;p1,7,39;p2,3,0;w0,3;w3,0;w5,7;";
        SignpostYard x = Due.laid(text);
        SignpostYard y = Due.laid(text);
        x.pass(1);
        x.move(2, 0);
        x.keep();
        for (int i = 0; i < 3; i++) {
            x.year();
            x.pass(7);
        }
        x.lays(0, 7, 0);
        x.lays(5, 6, 4);
        x.paint(1);
        x.move(2, 5);
        x.retire(1);
        Due.is("back()", x.back(), 0);
        y.pass(1);
        y.move(2, 0);
        y.keep();
        y.back();
        Stand.same("gone back to", x, y);
    }

    private static void keepIsNoAct() {
        Edge.of(32, "KEPT: how many. FULL.");
        SignpostYard x = new SignpostYard();
        x.pass(1);
        x.keep();
        Due.is("count(10)", x.count(10), 1);
        Due.is("undo()", x.undo(), 0);
        Due.is("the hour", x.count(3), 0);
        Due.is("count(11)", x.count(11), 1);
        Due.is("undo() no more", x.undo(), NO);
    }

    // ---- promise 33

    private static void backToNothing() {
        Edge.of(33, "nothing is UNDONE then. NO.");
        SignpostYard x = new SignpostYard();
        Due.is("back()", x.back(), NO);
        x.pass(3);
        Due.is("back() behind hours", x.back(), NO);
        Due.is("they can be undone still", x.count(10), 1);
        Due.is("the hour", x.count(3), 3);
        x.keep();
        x.back();
        Due.is("back() when it is gone back to", x.back(), NO);
    }

    private static void backToTheLast() {
        Edge.of(33, "As KEPT last (it is KEPT no more then): how many are left");
        SignpostYard x = new SignpostYard();
        x.year();
        x.keep();
        x.year();
        x.keep();
        x.year();
        Due.is("back()", x.back(), 1);
        Due.is("years", x.count(4), 2);
        Due.is("count(11)", x.count(11), 1);
        Due.is("back() again", x.back(), 0);
        Due.is("years", x.count(4), 1);
        Due.is("count(11)", x.count(11), 0);
        Due.is("back() no more", x.back(), NO);
        Due.is("years", x.count(4), 1);
    }

    private static void backMakesRoom() {
        Edge.of(33, "(it is KEPT no more then)");
        SignpostYard x = new SignpostYard();
        int[] hours = new int[2];
        int held = 0;
        for (int i = 0; i < 30; i++) {
            x.pass(1);
            if (held < 2 && i % 3 != 2) {
                hours[held] = x.count(3);
                held++;
                Due.is("keep() " + i, x.keep(), held);
            } else {
                Due.is("keep() " + i + " when it is full or not", held == 2 ? x.keep() : FULL, FULL);
                held--;
                Due.is("back() " + i, x.back(), held);
                Due.is("the hour behind " + i, x.count(3), hours[held]);
            }
        }
    }

    private static void backLeavesNothingUndone() {
        Edge.of(33, "nothing is UNDONE then");
        SignpostYard x = new SignpostYard();
        x.pass(1);
        x.pass(2);
        x.keep();
        x.year();
        Due.is("count(10)", x.count(10), 3);
        Due.is("back()", x.back(), 0);
        Due.is("count(10) then", x.count(10), 0);
        Due.is("undo()", x.undo(), NO);
        Due.is("the hour", x.count(3), 3);
        x.pass(4);
        Due.is("undo() of what is done then", x.undo(), 0);
        Due.is("the hour", x.count(3), 3);
    }

    private static void backToMuchElse() {
        Edge.of(33, "As KEPT last");
        SignpostYard x = Due.laid("n2;r0,1,1;p0,0,59;w0,1;");
        x.keep();
        x.year();
        x.lays(0, 1, 0);
        x.pass(20);
        x.back();
        Stand.same("gone back to", x, Due.laid("n2;r0,1,1;p0,0,59;w0,1;"));
    }

    private static void backLeavesTheTextAndWhatIsTold() {
        Edge.of(33, "KEPT is all as it stands, but THE TEXT and what is TOLD, SEEN");
        SignpostYard x = new SignpostYard();
        x.write('n');
        x.told(3, 4, 6);
        x.seen(0, 3, 1);
        x.keep();
        x.write('2');
        x.told(0, 0, 6);
        x.seen(0, 3, 0);
        x.back();
        Due.is("letters", x.count(12), 2);
        Due.is("told", x.count(8), 2);
        Due.is("seen", x.count(9), 2);
        Due.is("kinds(0) by both", x.kinds(0), 0);
        x.keep();
        x.forget();
        x.wipe();
        x.back();
        Due.is("letters wiped", x.count(12), 0);
        Due.is("told, forgotten", x.count(8), 0);
        Due.is("seen, forgotten", x.count(9), 0);
    }

    private static void backBehindLay() {
        Edge.of(33, "nothing is UNDONE then. NO.");
        SignpostYard x = new SignpostYard();
        x.keep();
        x.keep();
        Due.write(x, "n2;p0,0,0;w0,1;");
        Due.is("lay()", x.lay(), 1);
        Due.is("back()", x.back(), NO);
        Due.is("count(11)", x.count(11), 0);
        Due.is("towns", x.count(0), 2);
        Due.is("keep() is the first again", x.keep(), 1);
    }

    private static void keptStaysWhenUndone() {
        Edge.of(33, "As KEPT last");
        SignpostYard x = new SignpostYard();
        x.pass(5);
        x.keep();
        x.undo();
        Due.is("the hour undone", x.count(3), 0);
        x.year();
        Due.is("back()", x.back(), 0);
        Due.is("the hour as kept", x.count(3), 5);
        Due.is("the years as kept", x.count(4), 0);
    }

    // ---- promise 34

    private static void counts(SignpostYard x, int... due) {
        for (int what = 0; what < due.length; what++) {
            Due.is("count(" + what + ")", x.count(what), due[what]);
        }
    }

    private static void countFewest() {
        Edge.of(34, "How many: 0 TOWNS, 1 POSTS, 2 WALKERS, 3 the HOUR");
        SignpostYard x = Due.laid("n2;p0,0,0;w0,1;");
        x.wipe();
        counts(x, 2, 1, 1, 0, 0, 0, 0, 0, 0, 0, 0, 0, 0);
    }

    private static void countMost() {
        Edge.of(34, "8 TOLD, 9 SEEN, 10 that can be UNDONE, 11 KEPT, 12 letters of THE TEXT");
        SignpostYard x = Due.laid("n8;p0,0,59;p0,0,59;p0,0,59;p0,0,59;p0,0,59;p0,0,59;w0,1;w0,1;w0,1;w0,1;w0,1;");
        x.lays(0, 1, 1);
        x.year();
        for (int i = 0; i < 50; i++) {
            x.pass(i < 49 ? 20 : 19);
        }
        for (int i = 0; i < 7; i++) {
            x.told(0, 0, 0);
            x.seen(0, 0, 0);
            x.keep();
        }
        x.wipe();
        for (int i = 0; i < 201; i++) {
            x.write('~');
        }
        counts(x, 8, 6, 5, 999, 1, 1, 6, 5, 6, 6, 8, 2, 200);
    }

    private static void countOnlyTold() {
        Edge.of(34, "BAD: a number is none that is told");
        SignpostYard x = new SignpostYard();
        int[] bad = {-1, 13, 14, -13, 100, LOW, HIGH, NONE};
        for (int what : bad) {
            Due.is("count(" + what + ")", x.count(what), BAD);
        }
    }

    private static void countOfRoads() {
        Edge.of(34, "5 ROADS");
        SignpostYard x = Due.laid("n8;p0,0,0;w0,1;");
        int roads = 0;
        for (int a = 0; a < 8; a++) {
            for (int b = a + 1; b < 8; b++) {
                x.lays(b, a, 9);
                roads++;
                Due.is("count(5)", x.count(5), roads);
            }
        }
        Due.is("most there can be", roads, 28);
        x.lays(6, 7, 5);
        Due.is("changed: count(5)", x.count(5), 28);
        x.lays(7, 6, 0);
        Due.is("closed: count(5)", x.count(5), 27);
        x.lays(6, 7, 0);
        Due.is("closed again: count(5)", x.count(5), 27);
    }

    private static void countOfRetiredOnes() {
        Edge.of(34, "6 POSTS RETIRED");
        SignpostYard x = Due.laid("n2;p0,0,59;p0,0,58;p0,0,0;w0,1;");
        Due.is("count(6)", x.count(6), 0);
        x.retire(2);
        x.year();
        Due.is("count(6) behind a year", x.count(6), 2);
        x.year();
        x.year();
        Due.is("count(6) behind three", x.count(6), 3);
        Due.is("count(1)", x.count(1), 3);
    }

    private static void countOfWhoCame() {
        Edge.of(34, "7 WALKERS who are where they would be");
        SignpostYard x = Due.laid("n3;r0,1,1;p0,0,0;w0,1;w1,0;w0,2;w2,0;w0,1;");
        Due.is("count(7)", x.count(7), 0);
        x.pass(1);
        Due.is("count(7) behind an hour", x.count(7), 3);
        x.undo();
        Due.is("count(7) undone", x.count(7), 0);
        x.lays(0, 1, 0);
        x.pass(1);
        Due.is("count(7) without a road", x.count(7), 0);
    }
}
