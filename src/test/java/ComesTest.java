/** Promises 17 to 23: who comes, where more posts or paint would help, how far it is. */
public final class ComesTest {
    private static final int BAD = SignpostYard.BAD, NONE = SignpostYard.NONE;
    private static final int LOW = Integer.MIN_VALUE, HIGH = Integer.MAX_VALUE;
    private static final String DRUNK = "n5;r0,1,2;r0,3,1;r0,4,1;r1,2,1;p3,0,0;w0,2;w3,2;";

    public static void main(String[] args) {
        comes();
        trail();
        beyondTheLastHour();
        lost();
        helps();
        helpsBesideSix();
        paints();
        cover();
        coverOfNone();
        far();
        nothingChanges();
        Due.end();
    }

    private static void comes() {
        SignpostYard x = Due.laid(DRUNK);
        Due.is("comes(0)", x.comes(0), 2);
        Due.is("comes(1)", x.comes(1), NONE);
        x.pass(1);
        Due.is("comes(0) an hour on", x.comes(0), 1);
        x.pass(1);
        Due.is("comes(0) being there", x.comes(0), 0);
        Due.is("comes(2)", x.comes(2), BAD);
        Due.is("comes(-1)", x.comes(-1), BAD);
        Due.is("comes(highest)", x.comes(HIGH), BAD);
    }

    private static void trail() {
        SignpostYard x = Due.laid(DRUNK);
        int[] first = {0, 1, 2, 2, 2};
        int[] second = {3, 0, 4, 0, 4};
        for (int k = 0; k < 5; k++) {
            Due.is("trail(0, " + k + ")", x.trail(0, k), first[k]);
            Due.is("trail(1, " + k + ")", x.trail(1, k), second[k]);
        }
        Due.is("trail(1, 39)", x.trail(1, 39), 0);
        Due.is("trail(1, 40)", x.trail(1, 40), 4);
        Due.is("trail(1, 41)", x.trail(1, 41), BAD);
        Due.is("trail(1, -1)", x.trail(1, -1), BAD);
        Due.is("trail(2, 0)", x.trail(2, 0), BAD);
        Due.is("trail(-1, 0)", x.trail(-1, 0), BAD);
        Due.is("trail(lowest, highest)", x.trail(LOW, HIGH), BAD);
    }

    private static void beyondTheLastHour() {
        SignpostYard x = Due.laid("n5;r0,1,2;r0,3,1;r0,4,1;r1,2,1;p3,0,0;w3,2;w4,3;w0,2;");
        for (int i = 1; i < 50; i++) {
            x.pass(20);
        }
        x.pass(19);
        Due.is("the hour", x.count(3), 999);
        Due.is("the walker", x.walker(0, 0), 0);
        Due.is("trail(0, 1)", x.trail(0, 1), 4);
        Due.is("trail(0, 2)", x.trail(0, 2), 0);
        Due.is("trail(0, 40)", x.trail(0, 40), 0);
        Due.is("comes(0)", x.comes(0), NONE);
        x.lays(0, 4, 0);
        x.lays(0, 3, 0);
        Due.is("the only road is turned to", x.comes(0), 2);
        Due.is("century() beyond it", x.century(0, 60, 0) >= 0 ? 1 : 0, 1);
    }

    private static void lost() {
        Due.is("lost() at first", new SignpostYard().lost(), 7);
        SignpostYard x = Due.laid(DRUNK);
        Due.is("lost()", x.lost(), 2);
        x.lays(3, 2, 1);
        Due.is("lost(): none", x.lost(), 2);
        x.lays(0, 3, 0);
        Due.is("lost(): none now", x.lost(), 0);
        x = Due.laid("n3;p0,2,0;w0,1;w1,0;w2,1;w0,2;w1,2;");
        Due.is("lost(): all five", x.lost(), 31);
    }

    private static void helps() {
        SignpostYard x = Due.laid("n5;r0,1,3;r0,2,2;r0,3,2;p0,4,0;w0,1;w2,3;");
        Due.is("helps(0)", x.helps(0), 0);
        Due.is("helps(1)", x.helps(1), 2);
        x.move(0, 0);
        Due.is("where a post stands none is put", x.helps(0), 1);
        Due.is("none comes", x.helps(1), 0);
        x.retire(0);
        Due.is("where a retired one stood one is put", x.helps(0), 0);
        Due.is("both come again", x.helps(1), 2);
        Due.is("helps(2)", x.helps(2), BAD);
        Due.is("helps(-1)", x.helps(-1), BAD);
        Due.is("helps(lowest)", x.helps(LOW), BAD);
        x = Due.laid("n3;r0,1,1;r1,2,1;p0,2,0;w0,2;");
        Due.is("not the lowest one", x.helps(0), 1);
        x = Due.laid("n2;r0,1,1;p0,0,0;p0,1,0;w0,1;");
        Due.is("helps(0): no town is left", x.helps(0), NONE);
        Due.is("helps(1): no town is left", x.helps(1), NONE);
        Due.is("helps(2): no town is left", x.helps(2), BAD);
        x = Due.laid("n3;p0,1,0;w0,1;");
        Due.is("it helps nowhere: the lowest", x.helps(0), 0);
        Due.is("it helps nowhere: none", x.helps(1), 0);
        x.lays(0, 1, 5);
        Due.is("who would come anyhow", x.helps(1), 1);
    }

    private static void helpsBesideSix() {
        SignpostYard x = Due.laid("n8;r0,1,3;r0,2,2;p0,1,0;p0,2,0;p0,3,0;p0,4,0;p0,5,0;p0,6,0;w0,1;");
        Due.is("one more than six", x.helps(0), 0);
        Due.is("by it one comes", x.helps(1), 1);
        Due.is("six stand", x.count(1), 6);
        Due.is("no seventh stands", x.post(6, 0), BAD);
    }

    private static void paints() {
        SignpostYard x = Due.laid("n4;r0,1,1;r1,2,1;r2,3,1;p0,0,0;p0,1,0;w0,3;");
        x.lays(2, 3, 0);
        x.lays(0, 3, 9);
        x.lays(1, 3, 9);
        Due.is("lost()", x.lost(), 1);
        Due.is("either would do: the lowest", x.paints(0), 1);
        Due.is("one comes", x.paints(1), 1);
        x.retire(0);
        Due.is("a retired one is not painted", x.paints(0), 2);
        Due.is("one comes, too", x.paints(1), 1);
        x.paint(1);
        Due.is("none need be painted", x.paints(0), 0);
        Due.is("one comes still", x.paints(1), 1);
        x.retire(1);
        Due.is("all are retired", x.paints(0), 0);
        Due.is("none comes", x.paints(1), 0);
        Due.is("paints(2)", x.paints(2), BAD);
        Due.is("paints(-1)", x.paints(-1), BAD);
        Due.is("paints(highest)", x.paints(HIGH), BAD);
        x = Due.laid("n4;r0,1,1;r2,3,1;p0,0,0;p0,2,0;p0,1,0;w0,3;w2,1;");
        x.lays(0, 2, 1);
        Due.is("two are needed", x.paints(0), 3);
        Due.is("both come", x.paints(1), 2);
    }

    private static void cover() {
        SignpostYard x = Due.laid("n3;r0,1,1;r1,2,1;p0,0,0;p0,1,0;p0,2,0;w0,2;");
        Due.is("cover(0)", x.cover(0), 1);
        Due.is("cover(1)", x.cover(1), 2);
        x = Due.laid("n3;r0,1,1;r0,2,2;r1,2,2;p0,2,0;w0,2;");
        Due.is("either would do: how many", x.cover(0), 1);
        Due.is("either would do: the lowest", x.cover(1), 1);
        x = Due.laid("n4;r0,2,1;r0,1,2;r1,3,3;r2,3,5;p2,0,0;p1,1,50;w0,3;");
        Due.is("fewest, not the lowest: how many", x.cover(0), 1);
        Due.is("fewest, not the lowest: which", x.cover(1), 4);
        x = Due.laid("n3;r0,1,1;r0,2,2;p2,1,0;p2,0,0;w0,2;");
        Due.is("plain ones, whatever stood: how many", x.cover(0), 1);
        Due.is("plain ones, whatever stood: which", x.cover(1), 1);
        x = Due.laid("n3;r0,1,1;p0,2,0;w0,1;w1,0;");
        Due.is("no post is needed: how many", x.cover(0), 0);
        Due.is("no post is needed: which", x.cover(1), 0);
        x = Due.laid("n8;r0,1,9;r1,2,8;r2,3,7;r3,4,6;r4,5,5;r5,6,4;r6,7,3;p0,0,0;w7,0;");
        Due.is("a long way back: how many", x.cover(0), 6);
        Due.is("a long way back: which", x.cover(1), 126);
        Due.is("cover(2)", x.cover(2), BAD);
        Due.is("cover(-1)", x.cover(-1), BAD);
        Due.is("cover(lowest)", x.cover(LOW), BAD);
    }

    private static void coverOfNone() {
        SignpostYard x = Due.laid("n3;r0,1,1;p0,0,0;w0,1;w0,2;");
        Due.is("no way: how many", x.cover(0), NONE);
        Due.is("no way: which", x.cover(1), NONE);
        Due.is("no way: cover(2)", x.cover(2), BAD);
        x.lays(0, 2, 1);
        Due.is("a way: how many", x.cover(0), 1);
        Due.is("a way: which", x.cover(1), 1);
    }

    private static void far() {
        SignpostYard x = new SignpostYard();
        Due.is("far(0, 3)", x.far(0, 3), 6);
        Due.is("far(3, 0)", x.far(3, 0), 6);
        Due.is("far(0, 5)", x.far(0, 5), 6);
        Due.is("far(2, 2)", x.far(2, 2), 0);
        Due.is("far(0, 6)", x.far(0, 6), BAD);
        Due.is("far(-1, 0)", x.far(-1, 0), BAD);
        Due.is("far(6, 6)", x.far(6, 6), BAD);
        Due.is("far(lowest, highest)", x.far(LOW, HIGH), BAD);
        x.lays(0, 1, 0);
        x.lays(0, 5, 0);
        Due.is("no way", x.far(0, 3), NONE);
        Due.is("no way back", x.far(3, 0), NONE);
        Due.is("to the same one", x.far(0, 0), 0);
        x = Due.laid("n8;r0,1,9;r1,2,9;r2,3,9;r3,4,9;r4,5,9;r5,6,9;r6,7,9;p0,0,0;w0,7;");
        Due.is("the longest way", x.far(0, 7), 63);
        Due.is("the longest arm", x.arm(0, 7, 1), 63);
    }

    private static void nothingChanges() {
        SignpostYard x = new SignpostYard();
        x.pass(1);
        x.lays(1, 2, 0);
        x.comes(0);
        x.trail(0, 40);
        x.lost();
        x.helps(0);
        x.paints(0);
        x.cover(0);
        int[] counts = {6, 5, 4, 1, 0, 6, 0, 0, 0, 0, 2, 0, 0};
        for (int i = 0; i < counts.length; i++) {
            Due.is("asked only: count(" + i + ")", x.count(i), counts[i]);
        }
        Due.is("asked only: arm(0, 2, 0)", x.arm(0, 2, 0), 1);
        Due.is("asked only: walker(0, 0)", x.walker(0, 0), 1);
        Due.is("asked only: post(0, 1)", x.post(0, 1), 0);
    }
}
