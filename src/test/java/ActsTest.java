/** Promises 10 to 16: hours, years, roads, posts, and undoing. */
public final class ActsTest {
    private static final int BAD = SignpostYard.BAD, NO = SignpostYard.NO, NONE = SignpostYard.NONE;
    private static final int LOW = Integer.MIN_VALUE, HIGH = Integer.MAX_VALUE;

    public static void main(String[] args) {
        passWithoutPosts();
        passByPosts();
        passByDrunkOnes();
        passLimits();
        year();
        lays();
        paint();
        move();
        retire();
        undoEach();
        undoEight();
        undoLeaves();
        Due.end();
    }

    private static void passWithoutPosts() {
        SignpostYard x = Due.laid("n5;r0,1,3;r0,2,2;r0,3,2;p0,4,0;w0,1;w4,0;w1,0;w1,2;");
        Due.is("pass(1)", x.pass(1), 1);
        Due.is("along the shortest, to the lowest", x.walker(0, 0), 2);
        Due.is("no arm: it stays", x.walker(1, 0), 4);
        Due.is("the only road", x.walker(2, 0), 0);
        Due.is("pass(2)", x.pass(2), 3);
        Due.is("to and fro", x.walker(0, 0), 2);
        Due.is("who has come stays", x.walker(2, 0), 0);
        Due.is("it came by chance and stays", x.walker(3, 0), 2);
        x = Due.laid("n3;p0,2,0;w0,1;");
        x.pass(5);
        Due.is("no road: it stays", x.walker(0, 0), 0);
    }

    private static void passByPosts() {
        SignpostYard x = Due.laid("n4;r0,1,1;r0,2,1;r0,3,1;p2,0,0;p0,0,0;w0,1;w0,3;");
        x.pass(1);
        Due.is("it asks the lowest one", x.walker(0, 0), 2);
        Due.is("each for where it would be", x.walker(1, 0), 1);
        x.undo();
        x.retire(0);
        x.pass(1);
        Due.is("it asks the one that is left", x.walker(0, 0), 1);
        Due.is("it asks the one that is left, too", x.walker(1, 0), 3);
        x.undo();
        x.lays(0, 1, 0);
        x.pass(1);
        Due.is("no road leads there: it stays", x.walker(0, 0), 0);
        x = Due.laid("n3;r0,1,1;r1,2,1;p0,0,0;w1,2;");
        x.move(0, 1);
        x.pass(1);
        Due.is("the post points to where it stands", x.walker(0, 0), 1);
    }

    private static void passByDrunkOnes() {
        String text = "n5;r0,1,2;r0,3,1;r0,4,1;r1,2,1;p3,0,0;w0,2;w3,2;";
        SignpostYard x = Due.laid(text);
        int[] first = {1, 2, 2, 2};
        int[] second = {0, 4, 0, 4};
        for (int i = 0; i < 4; i++) {
            Due.is("pass(1)", x.pass(1), i + 1);
            Due.is("hour " + i + ": the first", x.walker(0, 0), first[i]);
            Due.is("hour " + i + ": the second", x.walker(1, 0), second[i]);
        }
        x = Due.laid(text);
        Due.is("pass(4)", x.pass(4), 4);
        Due.is("at once: the first", x.walker(0, 0), 2);
        Due.is("at once: the second", x.walker(1, 0), 4);
    }

    private static void passLimits() {
        SignpostYard x = new SignpostYard();
        Due.is("pass(0)", x.pass(0), BAD);
        Due.is("pass(21)", x.pass(21), BAD);
        Due.is("pass(lowest)", x.pass(LOW), BAD);
        Due.is("pass(highest)", x.pass(HIGH), BAD);
        for (int i = 1; i < 50; i++) {
            Due.is("pass(20)", x.pass(20), 20 * i);
        }
        Due.is("pass(20) above 999", x.pass(20), NO);
        Due.is("pass(21) above 999", x.pass(21), BAD);
        Due.is("pass(19) to 999", x.pass(19), 999);
        Due.is("pass(1) above 999", x.pass(1), NO);
        Due.is("the hour", x.count(3), 999);
        Due.is("what can be undone", x.count(10), 8);
    }

    private static void year() {
        SignpostYard x = Due.laid("n3;r0,1,1;p0,0,59;p3,1,58;p1,2,58;p2,0,10;w0,1;");
        x.retire(2);
        Due.is("year()", x.year(), 1);
        Due.is("it is told as 60", x.post(0, 2), 60);
        Due.is("it stands nowhere", x.post(0, 1), NONE);
        Due.is("it has no arms", x.arm(0, 1, 0), NONE);
        Due.is("not yet 60", x.post(1, 2), 59);
        Due.is("retired otherwise: as old as it was", x.post(2, 2), 58);
        Due.is("a year older", x.post(3, 2), 11);
        Due.is("year() again", x.year(), 1);
        Due.is("the first is 60 still", x.post(0, 2), 60);
        Due.is("the second is retired", x.post(1, 1), NONE);
        Due.is("year() once more", x.year(), 0);
        Due.is("retired", x.count(6), 3);
        Due.is("years", x.count(4), 3);
        Due.is("hours", x.count(3), 0);
        x = Due.laid("n2;r0,1,1;p0,0,59;p0,1,59;p0,1,59;w0,1;");
        Due.is("year() of three", x.year(), 3);
    }

    private static void lays() {
        SignpostYard x = new SignpostYard();
        Due.is("lays(0, 2, 9)", x.lays(0, 2, 9), 0);
        Due.is("road(2, 0)", x.road(2, 0), 9);
        Due.is("lays(2, 0, 1): miles changed", x.lays(2, 0, 1), 9);
        Due.is("far(0, 2)", x.far(0, 2), 1);
        Due.is("lays(0, 2, 0): closed", x.lays(0, 2, 0), 1);
        Due.is("road closed", x.road(0, 2), NONE);
        Due.is("far(0, 2) as before", x.far(0, 2), 5);
        Due.is("lays(0, 2, 0): none", x.lays(0, 2, 0), 0);
        Due.is("roads", x.count(5), 7);
        Due.is("each can be undone", x.count(10), 4);
        Due.is("lays alike", x.lays(1, 1, 1), BAD);
        Due.is("lays(0, 6, 1)", x.lays(0, 6, 1), BAD);
        Due.is("lays(-1, 0, 1)", x.lays(-1, 0, 1), BAD);
        Due.is("lays(0, 1, -1)", x.lays(0, 1, -1), BAD);
        Due.is("lays(0, 1, 10)", x.lays(0, 1, 10), BAD);
        Due.is("lays(lowest)", x.lays(LOW, HIGH, LOW), BAD);
        Due.is("BAD is not undone", x.count(10), 4);
        Due.is("BAD lays nothing", x.road(0, 1), 2);
    }

    private static void paint() {
        SignpostYard x = Due.laid("n4;r0,1,1;r1,2,1;p0,0,59;p1,0,5;w0,2;");
        Due.is("paint(0) as it was", x.paint(0), 2);
        x.lays(0, 2, 1);
        x.lays(0, 3, 1);
        Due.is("paint(0)", x.paint(0), 3);
        Due.is("arm(0, 2, 0)", x.arm(0, 2, 0), 2);
        Due.is("arm(0, 2, 1)", x.arm(0, 2, 1), 1);
        Due.is("arm(0, 3, 0)", x.arm(0, 3, 0), 3);
        Due.is("the other one is not painted", x.arm(1, 2, 0), 1);
        x.move(0, 2);
        Due.is("paint(0) moved", x.paint(0), 3);
        Due.is("no arm for where it stands", x.arm(0, 2, 0), NONE);
        Due.is("an arm for where it stood", x.arm(0, 0, 0), 0);
        Due.is("paint(2)", x.paint(2), BAD);
        Due.is("paint(-1)", x.paint(-1), BAD);
        Due.is("paint(highest)", x.paint(HIGH), BAD);
        x.year();
        Due.is("paint(0) retired", x.paint(0), NO);
        Due.is("what can be undone", x.count(10), 7);
    }

    private static void move() {
        SignpostYard x = new SignpostYard();
        Due.is("move(0, 3)", x.move(0, 3), 0);
        Due.is("it stands there", x.post(0, 1), 3);
        Due.is("its arms stay", x.arm(0, 4, 0), 1);
        Due.is("its miles stay", x.arm(0, 4, 1), 7);
        Due.is("its arm for where it stands", x.arm(0, 3, 0), 1);
        Due.is("none for where it was painted", x.arm(0, 0, 0), NONE);
        Due.is("move(0, 3) again", x.move(0, 3), NO);
        Due.is("move(0, 0)", x.move(0, 0), 3);
        Due.is("move(0, 6)", x.move(0, 6), BAD);
        Due.is("move(0, -1)", x.move(0, -1), BAD);
        Due.is("move(5, 0)", x.move(5, 0), BAD);
        Due.is("move(lowest)", x.move(LOW, HIGH), BAD);
        x.retire(0);
        Due.is("move retired", x.move(0, 3), NO);
        Due.is("move retired to no town", x.move(0, 6), BAD);
        Due.is("what can be undone", x.count(10), 3);
    }

    private static void retire() {
        SignpostYard x = new SignpostYard();
        x.move(1, 5);
        Due.is("retire(1)", x.retire(1), 5);
        Due.is("it stands nowhere", x.post(1, 1), NONE);
        Due.is("retired", x.count(6), 1);
        Due.is("retire(1) again", x.retire(1), NO);
        Due.is("retire(5)", x.retire(5), BAD);
        Due.is("retire(-1)", x.retire(-1), BAD);
        Due.is("retire(highest)", x.retire(HIGH), BAD);
        x.year();
        Due.is("retired by a year", x.retire(4), NO);
        Due.is("what can be undone", x.count(10), 3);
    }

    private static void undoEach() {
        SignpostYard x = new SignpostYard();
        Due.is("undo() of nothing", x.undo(), NO);
        x.pass(7);
        x.year();
        x.lays(0, 1, 0);
        x.paint(0);
        x.move(3, 0);
        x.retire(3);
        Due.is("undo() retire", x.undo(), 5);
        Due.is("it stands again", x.post(3, 1), 0);
        Due.is("it has arms again", x.arm(3, 3, 0), 3);
        Due.is("undo() move", x.undo(), 4);
        Due.is("it stands where it stood", x.post(3, 1), 2);
        Due.is("painted", x.arm(0, 3, 0), 5);
        Due.is("undo() paint", x.undo(), 3);
        Due.is("not painted", x.arm(0, 3, 0), 1);
        Due.is("undo() lays", x.undo(), 2);
        Due.is("the road is there", x.road(0, 1), 2);
        Due.is("far by it", x.far(0, 3), 6);
        Due.is("undo() year", x.undo(), 1);
        Due.is("the eldest stands", x.post(4, 1), 5);
        Due.is("the eldest is 59", x.post(4, 2), 59);
        Due.is("years", x.count(4), 0);
        Due.is("undo() seven hours at once", x.undo(), 0);
        Due.is("the hour", x.count(3), 0);
        Due.is("the walker", x.walker(3, 0), 4);
        Due.is("undo() no more", x.undo(), NO);
    }

    private static void undoEight() {
        SignpostYard x = new SignpostYard();
        for (int i = 0; i < 8; i++) {
            x.lays(0, 2, 0);
            Due.is("such by which nothing becomes another", x.count(10), i + 1);
        }
        x.pass(1);
        x.paint(0);
        Due.is("eight at most", x.count(10), 8);
        Due.is("undo()", x.undo(), 7);
        Due.is("undo() the hour", x.undo(), 6);
        Due.is("the hour", x.count(3), 0);
        x.pass(2);
        x.pass(3);
        x.pass(4);
        Due.is("eight again", x.count(10), 8);
        for (int i = 7; i >= 0; i--) {
            int[] hours = {0, 0, 0, 0, 0, 0, 2, 5};
            if (i < 7) {
                Due.is("the hour when " + (i + 1) + " are left", x.count(3), hours[i + 1]);
            }
            Due.is("undo()", x.undo(), i);
        }
        Due.is("undo() the ninth", x.undo(), NO);
        x.year();
        Due.is("one again", x.count(10), 1);
    }

    private static void undoLeaves() {
        SignpostYard x = new SignpostYard();
        x.pass(1);
        x.told(0, 0, 1);
        x.seen(0, 1, 1);
        x.keep();
        x.write('n');
        Due.is("undo()", x.undo(), 0);
        Due.is("told stays", x.count(8), 1);
        Due.is("seen stays", x.count(9), 1);
        Due.is("kept stays", x.count(11), 1);
        Due.is("the text stays", x.count(12), 1);
        Due.is("the hour", x.count(3), 0);
        x.pass(0);
        x.paint(9);
        x.move(0, 0);
        Due.is("what is refused is not undone", x.count(10), 0);
    }
}
