import java.util.ArrayList;
import java.util.List;

/**
 * All that the calls tell of an object, to compare it with another one that should stand alike.
 * Some 340 calls for the first yard and 450 for the largest, so an object is compared once.
 */
final class Stand {
    private static final int MOST_LETTERS_TOLD = 12;

    private Stand() {
    }

    /** As they stand, and as undo and back lead them on; neither is of use behind it. */
    static void same(String what, SignpostYard one, SignpostYard other) {
        compare(what + ": as all stands", asked(one), asked(other));
        compare(what + ": as undone and gone back to", unrolled(one), unrolled(other));
    }

    /** As they stand, and no more: for objects that have few calls left. */
    static void sameNow(String what, SignpostYard one, SignpostYard other) {
        compare(what + ": as all stands", asked(one), asked(other));
    }

    private static void compare(String what, List<Integer> got, List<Integer> want) {
        Due.is(what + ", how many answers", got.size(), want.size());
        for (int i = 0; i < Math.min(got.size(), want.size()); i++) {
            Due.is(what + ", answer " + i, got.get(i), want.get(i));
        }
    }

    private static List<Integer> asked(SignpostYard x) {
        List<Integer> all = new ArrayList<>();
        for (int what = 0; what <= MOST_LETTERS_TOLD; what++) {
            all.add(x.count(what));
        }
        int towns = all.get(0);
        int posts = all.get(1);
        int walkers = all.get(2);
        for (int a = 0; a < towns; a++) {
            for (int b = a + 1; b < towns; b++) {
                all.add(x.road(a, b));
                all.add(x.far(a, b));
            }
        }
        for (int what = 0; what < 3; what++) {
            for (int p = 0; p < posts; p++) {
                all.add(x.post(p, what));
                for (int y = 0; y < towns; y++) {
                    all.add(x.arm(p, y, what));
                }
            }
            for (int w = 0; w < walkers; w++) {
                all.add(x.walker(w, what));
            }
        }
        for (int p = 0; p < posts; p++) {
            all.add(x.kinds(p));
        }
        all.add(x.fault());
        all.add(x.lost());
        all.add(x.stood());
        all.add(x.next());
        return all;
    }

    private static List<Integer> unrolled(SignpostYard x) {
        List<Integer> all = new ArrayList<>();
        int undone = x.count(10);
        for (int i = 0; i <= undone; i++) {
            all.add(x.undo());
            brief(x, all);
        }
        int kept = x.count(11);
        for (int i = 0; i <= kept; i++) {
            all.add(x.back());
            brief(x, all);
        }
        return all;
    }

    private static void brief(SignpostYard x, List<Integer> all) {
        for (int what = 3; what <= 6; what++) {
            all.add(x.count(what));
        }
        int posts = x.count(1);
        for (int p = 0; p < posts; p++) {
            all.add(x.post(p, 1));
        }
        int walkers = x.count(2);
        for (int w = 0; w < walkers; w++) {
            all.add(x.walker(w, 0));
        }
    }
}
