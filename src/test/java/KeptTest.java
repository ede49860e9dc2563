/** Promises 32 to 34: yards kept, and how many there are of all. */
public final class KeptTest {
    private static final int BAD = SignpostYard.BAD, NO = SignpostYard.NO;
    private static final int FULL = SignpostYard.FULL, NONE = SignpostYard.NONE;

    public static void main(String[] args) {
        keep();
        back();
        backLeaves();
        keepBehindBack();
        keptAndUndone();
        count();
        countBad();
        Due.end();
    }

    private static void keep() {
        SignpostYard x = new SignpostYard();
        Due.is("keep()", x.keep(), 1);
        Due.is("keep() again", x.keep(), 2);
        Due.is("keep() a third", x.keep(), FULL);
        Due.is("kept", x.count(11), 2);
        Due.is("it is nothing to undo", x.undo(), NO);
    }

    private static void back() {
        SignpostYard x = new SignpostYard();
        Due.is("back() to nothing", x.back(), NO);
        x.pass(3);
        x.keep();
        x.year();
        x.lays(0, 1, 0);
        x.move(0, 3);
        x.paint(0);
        x.pass(4);
        x.keep();
        x.retire(0);
        x.pass(5);
        Due.is("back()", x.back(), 1);
        Due.is("as kept last: the hour", x.count(3), 7);
        Due.is("as kept last: the years", x.count(4), 1);
        Due.is("as kept last: the road", x.road(0, 1), NONE);
        Due.is("as kept last: the post", x.post(0, 1), 3);
        Due.is("as kept last: its age", x.post(0, 2), 11);
        Due.is("as kept last: its arm", x.arm(0, 2, 0), 2);
        Due.is("back() once more", x.back(), 0);
        Due.is("as kept first: the hour", x.count(3), 3);
        Due.is("as kept first: the years", x.count(4), 0);
        Due.is("as kept first: the road", x.road(0, 1), 2);
        Due.is("as kept first: far", x.far(0, 1), 2);
        Due.is("as kept first: the post", x.post(0, 1), 0);
        Due.is("as kept first: its arm", x.arm(0, 2, 0), 1);
        Due.is("as kept first: the walker who came", x.walker(3, 2), 1);
        Due.is("as kept first: the eldest", x.post(4, 1), 5);
        Due.is("back() no more", x.back(), NO);
        Due.is("the hour then", x.count(3), 3);
    }

    private static void backLeaves() {
        SignpostYard x = new SignpostYard();
        x.keep();
        x.pass(1);
        x.told(0, 0, 1);
        x.seen(0, 0, 1);
        x.write('n');
        Due.is("back()", x.back(), 0);
        Due.is("told stays", x.count(8), 1);
        Due.is("seen stays", x.count(9), 1);
        Due.is("the text stays", x.count(12), 1);
        Due.is("nothing can be undone then", x.count(10), 0);
        Due.is("undo()", x.undo(), NO);
    }

    private static void keepBehindBack() {
        SignpostYard x = new SignpostYard();
        x.keep();
        x.pass(1);
        x.keep();
        x.pass(1);
        x.back();
        x.pass(3);
        Due.is("keep() behind back()", x.keep(), 2);
        x.pass(9);
        x.back();
        Due.is("the hour kept behind it", x.count(3), 4);
        x.back();
        Due.is("the hour kept first", x.count(3), 0);
    }

    private static void keptAndUndone() {
        SignpostYard x = new SignpostYard();
        x.pass(1);
        x.keep();
        Due.is("keep() leaves what can be undone", x.count(10), 1);
        x.undo();
        Due.is("undo() leaves what is kept", x.count(11), 1);
        x.back();
        Due.is("as kept, not as undone", x.count(3), 1);
    }

    private static void count() {
        SignpostYard x = Due.laid("n7;r0,1,1;r1,2,2;r0,1,3;p0,0,59;p0,1,1;w0,1;w0,2;w3,4;");
        x.pass(2);
        x.year();
        x.year();
        x.year();
        x.lays(5, 6, 9);
        x.told(0, 0, 0);
        x.told(0, 0, 0);
        x.seen(0, 0, 0);
        x.keep();
        int[] counts = {7, 2, 3, 2, 3, 3, 1, 2, 2, 1, 5, 1, 54};
        for (int i = 0; i < counts.length; i++) {
            Due.is("count(" + i + ")", x.count(i), counts[i]);
        }
    }

    private static void countBad() {
        SignpostYard x = new SignpostYard();
        Due.is("count(-1)", x.count(-1), BAD);
        Due.is("count(13)", x.count(13), BAD);
        Due.is("count(lowest)", x.count(Integer.MIN_VALUE), BAD);
        Due.is("count(highest)", x.count(Integer.MAX_VALUE), BAD);
    }
}
