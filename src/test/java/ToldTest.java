/** Promises 24 to 29: where a post stood, what to ask it next, of which kind one is. */
public final class ToldTest {
    private static final int BAD = SignpostYard.BAD, FULL = SignpostYard.FULL, NONE = SignpostYard.NONE;
    private static final int LOW = Integer.MIN_VALUE, HIGH = Integer.MAX_VALUE;

    public static void main(String[] args) {
        told();
        stood();
        next();
        nextWithoutArms();
        seen();
        kinds();
        kindsByHourAndAge();
        kindsOfRetiredOnes();
        forget();
        Due.end();
    }

    private static void told() {
        SignpostYard x = new SignpostYard();
        Due.is("told(0, 5, 0)", x.told(0, 5, 0), 1);
        Due.is("told(3, 3, 72)", x.told(3, 3, 72), 2);
        Due.is("told(0, 0, 73)", x.told(0, 0, 73), BAD);
        Due.is("told(0, 0, -1)", x.told(0, 0, -1), BAD);
        Due.is("told(6, 0, 1)", x.told(6, 0, 1), BAD);
        Due.is("told(0, 6, 1)", x.told(0, 6, 1), BAD);
        Due.is("told(-1, 0, 1)", x.told(-1, 0, 1), BAD);
        Due.is("told(0, -1, 1)", x.told(0, -1, 1), BAD);
        Due.is("told(lowest)", x.told(LOW, HIGH, LOW), BAD);
        for (int i = 3; i <= 6; i++) {
            Due.is("told(0, 5, 0)", x.told(0, 5, 0), i);
        }
        Due.is("told() a seventh", x.told(0, 5, 0), FULL);
        Due.is("told(0, 0, 73), being full", x.told(0, 0, 73), BAD);
        Due.is("told", x.count(8), 6);
    }

    private static void stood() {
        SignpostYard x = new SignpostYard();
        Due.is("stood(): nothing is told", x.stood(), 63);
        x.told(3, 4, 6);
        Due.is("stood(): miles and arm", x.stood(), 32);
        x.told(0, 0, 6);
        Due.is("stood(): both", x.stood(), 32);
        x.told(0, 0, 2);
        Due.is("stood(): none tells all", x.stood(), 0);
        x.forget();
        x.told(1, 2, 3);
        Due.is("stood(): the miles alone", x.stood(), 0);
        x.forget();
        x.told(4, 4, 2);
        Due.is("stood(): by the roads", x.stood(), 32);
        x.lays(0, 4, 2);
        Due.is("stood(): by the roads as they are", x.stood(), 33);
        x.forget();
        x.told(1, 1, 0);
        Due.is("stood(): it points for no town where it stands", x.stood(), 0);
        x = Due.laid("n8;r0,4,1;r4,7,1;p0,0,0;w0,1;");
        Due.is("stood(): eight", x.stood(), 255);
        x.told(4, 4, 1);
        Due.is("stood(): two of eight", x.stood(), 129);
    }

    private static void next() {
        SignpostYard x = Due.laid("n4;r1,0,1;r1,2,1;r1,3,1;p0,0,0;w0,1;");
        // for 0: {0} {1} {2, 3}; for 1: {0, 2, 3} {1}; for 2: {0, 3} {1} {2}
        Due.is("next(): of several the lowest", x.next(), 0);
        x.told(1, 1, 1);
        // 0, 2 and 3 are left; for 0: {0} {2, 3}; for 1: {0, 2, 3}
        Due.is("next(): of three", x.next(), 0);
        x.told(0, 1, 2);
        // 2 and 3 are left; for 0 and for 1: {2, 3}; for 2: {2} {3}
        Due.is("next(): of two", x.next(), 2);
        x.told(2, 1, 2);
        Due.is("next(): of one", x.next(), 0);
        x.told(3, 1, 2);
        Due.is("next(): of none", x.next(), NONE);
        x = Due.laid("n3;r0,1,1;r0,2,2;p0,0,0;w0,1;");
        x.told(0, 0, 1);
        Due.is("next(): of one", x.next(), 0);
        x = Due.laid("n3;r0,1,2;r1,2,1;r0,2,3;p0,0,0;w0,1;");
        // for 1: 0 by 1, 2 miles; 2 by 1, 1 mile: the miles part them
        Due.is("next(): by miles", x.next(), 0);
    }

    private static void nextWithoutArms() {
        SignpostYard x = Due.laid("n4;r1,2,1;r2,3,1;p0,0,0;w1,2;");
        // for 0: all are without an arm; for 1: {0, 1} {2} {3}
        Due.is("next(): past one without a way", x.next(), 1);
        x = Due.laid("n4;r0,3,1;r2,3,1;p0,0,0;w0,3;");
        // for 0: {0, 1} {2} {3}: being there and no way there are alike; for 3: {0, 2} {1, 3}
        Due.is("next(): no arm is one, too", x.next(), 0);
        x = Due.laid("n3;p0,0,0;w0,1;");
        Due.is("next(): no roads", x.next(), 0);
        x = Due.laid("n5;r0,2,1;r0,3,1;r1,4,1;p0,0,0;w0,1;");
        // for 0: {0, 1, 4} {2, 3}; for 1: {0, 1, 2, 3} {4}; for 2: {0} {1, 2, 4} {3}
        Due.is("next(): there and no way are alike", x.next(), 0);
        x = Due.laid("n6;r0,1,1;r0,2,1;r0,3,1;r4,5,1;p0,0,0;w0,1;");
        // for 0: {0, 4, 5} {1, 2, 3}; for 1: {0} {1, 4, 5} {2, 3}
        Due.is("next(): of three and three", x.next(), 0);
        x = Due.laid("n6;r1,0,1;r1,2,1;r1,3,1;r1,4,1;p0,0,0;w0,1;");
        // for 0: {0, 5} {1} {2, 3, 4}; for 1: {0, 2, 3, 4} {1, 5}; for 5: all
        Due.is("next(): of three", x.next(), 0);
    }

    private static void seen() {
        SignpostYard x = new SignpostYard();
        Due.is("seen(4, 5, 5)", x.seen(4, 5, 5), 1);
        Due.is("seen(5, 0, 0)", x.seen(5, 0, 0), BAD);
        Due.is("seen(-1, 0, 0)", x.seen(-1, 0, 0), BAD);
        Due.is("seen(0, 6, 0)", x.seen(0, 6, 0), BAD);
        Due.is("seen(0, -1, 0)", x.seen(0, -1, 0), BAD);
        Due.is("seen(0, 0, 6)", x.seen(0, 0, 6), BAD);
        Due.is("seen(0, 0, -1)", x.seen(0, 0, -1), BAD);
        Due.is("seen(lowest)", x.seen(LOW, HIGH, LOW), BAD);
        x.retire(0);
        Due.is("seen() of a retired one", x.seen(0, 0, 1), 2);
        for (int i = 3; i <= 6; i++) {
            Due.is("seen(1, 0, 0)", x.seen(1, 0, 0), i);
        }
        Due.is("seen() a seventh", x.seen(1, 0, 0), FULL);
        Due.is("seen(5, 0, 0), being full", x.seen(5, 0, 0), BAD);
        Due.is("seen", x.count(9), 6);
        Due.is("told is not full by it", x.told(0, 0, 0), 1);
    }

    private static void kinds() {
        SignpostYard x = Due.laid("n5;r0,1,1;r0,3,1;r0,4,1;r1,2,1;p0,0,0;p3,0,0;w1,2;");
        Due.is("kinds(0): nothing is seen", x.kinds(0), 15);
        x.seen(0, 2, 1);
        Due.is("kinds(0): as its arm is", x.kinds(0), 11);
        Due.is("kinds(1): of another one nothing is seen", x.kinds(1), 15);
        x.seen(1, 2, 3);
        Due.is("kinds(1): turned once", x.kinds(1), 4);
        x.seen(1, 4, 1);
        Due.is("kinds(1): turned once, twice seen", x.kinds(1), 4);
        x.seen(1, 4, 4);
        Due.is("kinds(1): it can't be both", x.kinds(1), 0);
        x.forget();
        x.seen(1, 2, 4);
        Due.is("kinds(1): turned twice, at an even hour", x.kinds(1), 0);
        x.pass(1);
        Due.is("kinds(1): turned twice, at an uneven hour", x.kinds(1), 8);
        Due.is("its kind stays", x.post(1, 0), 3);
        Due.is("kinds(2)", x.kinds(2), BAD);
        Due.is("kinds(-1)", x.kinds(-1), BAD);
        Due.is("kinds(highest)", x.kinds(HIGH), BAD);
    }

    private static void kindsByHourAndAge() {
        SignpostYard x = Due.laid("n5;r0,1,1;r0,3,1;r0,4,1;r1,2,1;p0,0,39;w1,2;");
        x.seen(0, 2, 3);
        Due.is("not worn at 39", x.kinds(0), 4);
        x.year();
        Due.is("worn at 40", x.kinds(0), 6);
        x.undo();
        Due.is("not worn at 39 again", x.kinds(0), 4);
        x.lays(0, 3, 0);
        Due.is("by roads as they are", x.kinds(0), 0);
        x.seen(0, 0, 0);
        x.lays(0, 3, 1);
        Due.is("it points nowhere for where it stands", x.kinds(0), 0);
    }

    private static void kindsOfRetiredOnes() {
        SignpostYard x = new SignpostYard();
        x.seen(0, 3, 1);
        x.retire(0);
        x.retire(1);
        Due.is("kinds(0): retired, seen", x.kinds(0), 0);
        Due.is("kinds(1): retired, not seen", x.kinds(1), 15);
        x.undo();
        x.undo();
        Due.is("kinds(0): undone", x.kinds(0), 11);
    }

    private static void forget() {
        SignpostYard x = new SignpostYard();
        Due.is("forget() nothing", x.forget(), 0);
        x.told(0, 0, 1);
        x.told(0, 0, 1);
        x.seen(0, 0, 1);
        Due.is("forget()", x.forget(), 3);
        Due.is("told", x.count(8), 0);
        Due.is("seen", x.count(9), 0);
        Due.is("stood()", x.stood(), 63);
        Due.is("kinds(0)", x.kinds(0), 15);
        Due.is("told() again", x.told(0, 0, 1), 1);
        Due.is("seen() again", x.seen(0, 0, 1), 1);
        Due.is("undone is not forgotten with it", x.count(10), 0);
    }
}
