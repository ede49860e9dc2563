import java.lang.reflect.InvocationTargetException;
import java.lang.reflect.Method;
import java.util.Arrays;

/** BAD, NO, NONE, FULL: each number that is none of those told, what goes ahead of what, and that nothing changes. */
final class RefusedEdges {
    private static final int BAD = SignpostYard.BAD, NO = SignpostYard.NO;
    private static final int FULL = SignpostYard.FULL, NONE = SignpostYard.NONE;
    private static final int[] WILD = {Integer.MIN_VALUE, Integer.MIN_VALUE + 1, -1000, -4, -3, -2, -1, 0, 1, 2, 3, 4, 5,
        6, 7, 8, 9, 10, 11, 12, 13, 20, 21, 31, 32, 40, 41, 60, 61, 64, 72, 73, 126, 127, 255, 256, 9999, 10000, 65536,
        1 << 30, Integer.MAX_VALUE - 1, Integer.MAX_VALUE};

    /** A call that can be refused. */
    private interface Call {
        int on(SignpostYard x);
    }

    private RefusedEdges() {
    }

    static void all() {
        badOfEachNumber(6, 5, 4, "");
        badOfEachNumber(2, 1, 1, "n2;r0,1,1;p0,0,0;w0,1;");
        badOfEachNumber(8, 6, 5, "n8;r0,1,1;p0,0,0;p1,1,1;p2,2,2;p3,3,3;p0,7,4;p1,6,5;w0,7;w1,6;w2,5;w3,4;w4,3;");
        badChangesNothing();
        noChangesNothing();
        fullChangesNothing();
        noneChangesNothing();
        badAheadOfAll();
        nothingIsThrown();
    }

    /** Much done: letters, told, seen, kept, undone, an uneven hour, a retired post. */
    static SignpostYard inUse() {
        SignpostYard x = Due.written("w0,1;");
        x.pass(1);
        x.year();
        x.lays(1, 3, 1);
        x.keep();
        x.paint(2);
        x.move(1, 3);
        x.pass(2);
        x.told(3, 4, 6);
        x.seen(0, 3, 1);
        x.seen(1, 3, 4);
        return x;
    }

    // ---- BAD

    /** What each call's numbers may be, {lowest, highest} each, in a yard of so many. */
    private static int[][] told(String name, int towns, int posts, int walkers) {
        int[] town = {0, towns - 1};
        int[] post = {0, posts - 1};
        int[] walker = {0, walkers - 1};
        switch (name) {
            case "write": return new int[][] {{32, 126}};
            case "road": case "far": return new int[][] {town, town};
            case "post": return new int[][] {post, {0, 2}};
            case "arm": return new int[][] {post, town, {0, 2}};
            case "walker": return new int[][] {walker, {0, 2}};
            case "pass": return new int[][] {{1, 20}};
            case "lays": return new int[][] {town, town, {0, 9}};
            case "paint": case "retire": case "kinds": return new int[][] {post};
            case "move": return new int[][] {post, town};
            case "comes": return new int[][] {walker};
            case "trail": return new int[][] {walker, {0, 40}};
            case "helps": case "paints": case "cover": return new int[][] {{0, 1}};
            case "told": return new int[][] {town, town, {0, 72}};
            case "seen": return new int[][] {post, town, town};
            case "likely": return new int[][] {walker, {0, 10}, {0, 1}};
            case "century": return new int[][] {{0, 9999}, {1, 60}, {0, 2}};
            case "count": return new int[][] {{0, 12}};
            default: return new int[0][];
        }
    }

    private static int promise(String name) {
        String[] names = {"new", "write", "wipe", "fault", "lay", "road", "post", "arm", "walker", "pass", "year", "lays",
            "paint", "move", "retire", "undo", "comes", "trail", "lost", "helps", "paints", "cover", "far", "told", "stood",
            "next", "seen", "kinds", "forget", "likely", "century", "keep", "back", "count"};
        return Arrays.asList(names).indexOf(name) + 1;
    }

    private static int call(SignpostYard x, Method method, int... numbers) {
        Object[] boxed = new Object[numbers.length];
        for (int i = 0; i < numbers.length; i++) {
            boxed[i] = numbers[i];
        }
        try {
            return (int) method.invoke(x, boxed);
        } catch (InvocationTargetException e) {
            Due.holds(method.getName() + Arrays.toString(numbers) + " threw " + e.getCause(), false);
        } catch (IllegalAccessException e) {
            Due.holds(method.getName() + " can be called", false);
        }
        return 0;
    }

    private static SignpostYard object(String text) {
        return text.isEmpty() ? inUse() : Due.laid(text);
    }

    /** Each number in its turn just outside, far outside, and just inside, the others being good. */
    private static void badOfEachNumber(int towns, int posts, int walkers, String text) {
        for (Method method : SignpostYard.class.getDeclaredMethods()) {
            int[][] told = told(method.getName(), towns, posts, walkers);
            if (method.getReturnType() != int.class || told.length == 0 || method.getParameterCount() != told.length) {
                continue;
            }
            Edge.of(promise(method.getName()),
                "BAD: a number is none that is told (TOWNS, POSTS, WALKERS: such as there are)");
            SignpostYard x = object(text);
            for (int i = 0; i < told.length; i++) {
                int low = told[i][0];
                int high = told[i][1];
                int[] outside = {low - 1, high + 1, low - 2, high + 2, Integer.MIN_VALUE, Integer.MAX_VALUE};
                for (int number : outside) {
                    int[] numbers = with(told, i, number);
                    Due.is(method.getName() + Arrays.toString(numbers), call(x, method, numbers), BAD);
                }
                for (int number : told[i]) {
                    int[] numbers = with(told, i, number);
                    boolean bad = call(object(text), method, numbers) == BAD;
                    Due.holds(method.getName() + Arrays.toString(numbers) + " is not BAD", !bad);
                }
            }
        }
    }

    /** That number in its place, and good ones in all others; two towns unlike each other, if that can be. */
    private static int[] with(int[][] told, int place, int number) {
        int[] numbers = new int[told.length];
        for (int i = 0; i < told.length; i++) {
            numbers[i] = told[i][0];
        }
        boolean twoTowns = told.length > 1 && told[0] == told[1];
        if (twoTowns) {
            numbers[place == 0 ? 1 : 0] = number == 1 ? 0 : 1;
        }
        numbers[place] = number;
        return numbers;
    }

    private static void changesNothing(String name, int promise, int due, Call call) {
        Edge.of(promise, "nothing changes then");
        SignpostYard x = inUse();
        Due.is(name, call.on(x), due);
        Stand.same(name, x, inUse());
    }

    private static void badChangesNothing() {
        for (Method method : SignpostYard.class.getDeclaredMethods()) {
            int[][] told = told(method.getName(), 6, 5, 4);
            if (method.getReturnType() != int.class || told.length == 0 || method.getParameterCount() != told.length) {
                continue;
            }
            for (int i = 0; i < told.length; i++) {
                for (int number : new int[] {told[i][0] - 1, told[i][1] + 1}) {
                    int[] numbers = with(told, i, number);
                    changesNothing(method.getName() + Arrays.toString(numbers), promise(method.getName()), BAD,
                        x -> call(x, method, numbers));
                }
            }
        }
        changesNothing("road(3, 3)", 6, BAD, x -> x.road(3, 3));
        changesNothing("lays(3, 3, 5)", 12, BAD, x -> x.lays(3, 3, 5));
    }

    // ---- NO

    private static void noChangesNothing() {
        changesNothing("lay() of no post", 5, NO, x -> x.lay());
        changesNothing("paint(4) retired", 13, NO, x -> x.paint(4));
        changesNothing("move(4, 0) retired", 14, NO, x -> x.move(4, 0));
        changesNothing("move(1, 3) where it stands", 14, NO, x -> x.move(1, 3));
        changesNothing("retire(4) retired", 15, NO, x -> x.retire(4));
        Edge.of(10, "nothing changes then");
        SignpostYard x = late();
        Due.is("pass(20) above 999", x.pass(20), NO);
        Stand.same("pass(20) above 999", x, late());
        Edge.of(16, "nothing changes then");
        x = new SignpostYard();
        Due.is("undo() of nothing", x.undo(), NO);
        Stand.same("undo() of nothing", x, new SignpostYard());
        Edge.of(33, "nothing changes then");
        x = new SignpostYard();
        SignpostYard y = new SignpostYard();
        x.pass(1);
        y.pass(1);
        Due.is("back() to nothing", x.back(), NO);
        Stand.same("back() to nothing", x, y);
    }

    private static SignpostYard late() {
        SignpostYard x = new SignpostYard();
        for (int i = 0; i < 49; i++) {
            x.pass(20);
        }
        return x;
    }

    // ---- FULL

    private static void fullChangesNothing() {
        Edge.of(2, "nothing changes then");
        SignpostYard x = inUse();
        SignpostYard y = inUse();
        for (int i = x.count(12); i < 200; i++) {
            x.write('n');
            y.write('n');
        }
        Due.is("write() to a full text", x.write('n'), FULL);
        Stand.sameNow("write() to a full text", x, y);
        Edge.of(24, "nothing changes then");
        x = inUse();
        y = inUse();
        for (int i = 0; i < 5; i++) {
            x.told(3, 4, 6);
            y.told(3, 4, 6);
        }
        Due.is("told() a seventh", x.told(0, 0, 0), FULL);
        Stand.same("told() a seventh", x, y);
        Edge.of(27, "nothing changes then");
        x = inUse();
        y = inUse();
        for (int i = 0; i < 4; i++) {
            x.seen(2, 3, 3);
            y.seen(2, 3, 3);
        }
        Due.is("seen() a seventh", x.seen(0, 0, 0), FULL);
        Stand.same("seen() a seventh", x, y);
        Edge.of(32, "nothing changes then");
        x = inUse();
        y = inUse();
        x.keep();
        y.keep();
        x.year();
        y.year();
        Due.is("keep() a third", x.keep(), FULL);
        Stand.same("keep() a third", x, y);
    }

    // ---- NONE

    private static void noneChangesNothing() {
        changesNothing("road(0, 2)", 6, NONE, x -> x.road(0, 2));
        changesNothing("post(4, 1)", 7, NONE, x -> x.post(4, 1));
        changesNothing("arm(4, 0, 0)", 8, NONE, x -> x.arm(4, 0, 0));
        changesNothing("arm(0, 0, 1)", 8, NONE, x -> x.arm(0, 0, 1));
        Edge.of(17, "nothing changes then");
        String text = "n2;p0,0,0;p0,1,0;w0,1;";
        SignpostYard x = Due.laid(text);
        x.told(0, 0, 0);
        SignpostYard y = Due.laid(text);
        y.told(0, 0, 0);
        Due.is("comes(0)", x.comes(0), NONE);
        Due.is("helps(0)", x.helps(0), NONE);
        Due.is("helps(1)", x.helps(1), NONE);
        Due.is("cover(0)", x.cover(0), NONE);
        Due.is("cover(1)", x.cover(1), NONE);
        Due.is("far(0, 1)", x.far(0, 1), NONE);
        Due.is("next()", x.next(), NONE);
        Due.is("fault()", x.fault(), NONE);
        Stand.same("nothing to tell", x, y);
    }

    // ---- what goes ahead of what

    private static void badAheadOfAll() {
        Edge.of(2, "Of several the first in this order");
        SignpostYard x = new SignpostYard();
        for (int i = 0; i < 200; i++) {
            x.write('n');
        }
        Due.is("write(127), being FULL", x.write(127), BAD);
        Edge.of(10, "Of several the first in this order");
        x = late();
        x.pass(19);
        Due.is("pass(0), being at the last hour", x.pass(0), BAD);
        Due.is("pass(21), being at the last hour", x.pass(21), BAD);
        x = inUse();
        Edge.of(14, "Of several the first in this order");
        Due.is("move(4, 6) of a retired one", x.move(4, 6), BAD);
        Due.is("move(4, -1) of a retired one", x.move(4, -1), BAD);
        Edge.of(7, "Of several the first in this order");
        Due.is("post(4, 3) of a retired one", x.post(4, 3), BAD);
        Edge.of(8, "Of several the first in this order");
        Due.is("arm(4, 6, 0) of a retired one", x.arm(4, 6, 0), BAD);
        Due.is("arm(4, 0, 3) of a retired one", x.arm(4, 0, 3), BAD);
        Edge.of(24, "Of several the first in this order");
        for (int i = 0; i < 6; i++) {
            x.told(0, 0, 0);
            x.seen(0, 0, 0);
        }
        Due.is("told(0, 0, 73), being FULL", x.told(0, 0, 73), BAD);
        Edge.of(27, "Of several the first in this order");
        Due.is("seen(5, 0, 0), being FULL", x.seen(5, 0, 0), BAD);
        x = Due.laid("n2;p0,0,0;p0,1,0;w0,1;");
        Edge.of(20, "Of several the first in this order");
        Due.is("helps(2), there being none", x.helps(2), BAD);
        Edge.of(22, "Of several the first in this order");
        Due.is("cover(2), there being none", x.cover(2), BAD);
    }

    // ---- no call throws

    /** Wild numbers for all calls, far beyond the 512th: what is answered then is free, but it is answered. */
    private static void nothingIsThrown() {
        Due.about("no call may ever throw");
        Method[] methods = SignpostYard.class.getDeclaredMethods();
        String[] texts = {"", "n2;p0,0,0;w0,1;",
            "n8;r0,7,9;p3,7,59;p2,0,0;p1,1,40;p0,3,3;p3,3,0;p3,4,0;w0,7;w7,0;w1,2;w2,1;w3,4;"};
        for (String text : texts) {
            SignpostYard x = text.isEmpty() ? new SignpostYard() : Due.laid(text);
            for (int round = 0; round < 400; round++) {
                for (int m = 0; m < methods.length; m++) {
                    if (told(methods[m].getName(), 2, 1, 1).length == methods[m].getParameterCount()
                        && methods[m].getReturnType() == int.class && methods[m].getParameterTypes().length <= 3) {
                        int[] numbers = new int[methods[m].getParameterCount()];
                        for (int i = 0; i < numbers.length; i++) {
                            numbers[i] = WILD[(round * (2 * i + 1) + 7 * m + 11 * i) % WILD.length];
                        }
                        call(x, methods[m], numbers);
                    }
                }
            }
            Due.holds("it answers still", x.count(0) >= 2);
        }
    }
}
