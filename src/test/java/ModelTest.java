import java.util.Arrays;
import java.util.Random;

/** Runs of drawn calls, each answer of the class beside that of the model. */
public final class ModelTest {
    private static final int CALLS = 500;

    private final Random random;
    private final SignpostYard yard = new SignpostYard();
    private final Model model = new Model();
    private final int run;
    private int calls;

    private ModelTest(int run) {
        this.run = run;
        this.random = new Random(1000003L * run + 17);
    }

    public static void main(String[] args) {
        int runs = args.length > 0 ? Integer.parseInt(args[0]) : 60;
        for (int run = 0; run < runs && !Due.anyWrong(); run++) {
            new ModelTest(run).play();
        }
        Due.end();
    }

    private void play() {
        if (run % 4 != 0) {
            layDrawn();
        }
        while (calls < CALLS && !Due.anyWrong()) {
            int dice = random.nextInt(100);
            if (dice < 2 && calls < CALLS - 250) {
                layDrawn();
            } else if (dice < 42) {
                act();
            } else if (dice < 90) {
                ask();
            } else {
                deepAsk();
            }
        }
        Due.holds("run " + run + " has no more calls than an object is used for: " + calls, calls <= 512);
    }

    private void compare(String call, int got, int want, int... with) {
        calls++;
        Due.is("run " + run + ", call " + calls + ": " + call + Arrays.toString(with), got, want);
    }

    /** One of 0 to n - 1 mostly, now and then one that is none. */
    private int some(int n) {
        int dice = random.nextInt(40);
        return dice == 0 ? -1 : dice == 1 ? n : dice == 2 ? wild() : random.nextInt(n);
    }

    private int wild() {
        int[] wilds = {Integer.MIN_VALUE, Integer.MAX_VALUE, -2, 100, 1 << 30, 8, 6, 31};
        return wilds[random.nextInt(wilds.length)];
    }

    private int town() {
        return some(model.count(0));
    }

    private int post() {
        return some(model.count(1));
    }

    private int walker() {
        return some(model.count(2));
    }

    private void layDrawn() {
        compare("wipe", yard.wipe(), model.wipe());
        String text = drawnText();
        for (int i = 0; i < text.length(); i++) {
            compare("write", yard.write(text.charAt(i)), model.write(text.charAt(i)), text.charAt(i));
        }
        compare("fault of " + text, yard.fault(), model.fault());
        compare("lay", yard.lay(), model.lay());
    }

    private String drawnText() {
        StringBuilder text = new StringBuilder();
        int n = 6;
        if (random.nextInt(5) != 0) {
            n = 2 + random.nextInt(7);
            text.append('n').append(n).append(';');
        }
        int roads = random.nextInt(2 * n);
        for (int i = 0; i < roads; i++) {
            int a = random.nextInt(n);
            item(text, 'r', a, (a + 1 + random.nextInt(n - 1)) % n, 1 + random.nextInt(random.nextBoolean() ? 9 : 2));
        }
        int posts = 1 + random.nextInt(6);
        for (int i = 0; i < posts; i++) {
            int[] ages = {random.nextInt(60), 59 - random.nextInt(4), 39 + random.nextInt(2)};
            item(text, 'p', random.nextInt(4), random.nextInt(n), ages[random.nextInt(3)]);
        }
        int walkers = 1 + random.nextInt(5);
        for (int i = 0; i < walkers; i++) {
            int a = random.nextInt(n);
            item(text, 'w', a, (a + 1 + random.nextInt(n - 1)) % n);
        }
        if (random.nextInt(3) == 0) {
            spoil(text);
        }
        return text.substring(0, Math.min(text.length(), 210));
    }

    private void item(StringBuilder text, char letter, int... numbers) {
        text.append(letter);
        for (int i = 0; i < numbers.length; i++) {
            text.append(i == 0 ? "" : ",").append(random.nextInt(12) == 0 && numbers[i] < 10 ? "0" : "").append(numbers[i]);
        }
        text.append(';');
    }

    private void spoil(StringBuilder text) {
        String letters = "0123456789,;nrpwx ~";
        int at = random.nextInt(text.length());
        char letter = letters.charAt(random.nextInt(letters.length()));
        switch (random.nextInt(4)) {
            case 0: text.setCharAt(at, letter); break;
            case 1: text.insert(at, letter); break;
            case 2: text.deleteCharAt(at); break;
            default: text.setLength(at + 1); break;
        }
    }

    private void act() {
        switch (random.nextInt(12)) {
            case 0: case 1: {
                int n = random.nextInt(8) == 0 ? some(21) : 1 + random.nextInt(3);
                compare("pass", yard.pass(n), model.pass(n), n);
                break;
            }
            case 2:
                compare("year", yard.year(), model.year());
                break;
            case 3: case 4: {
                int a = town();
                int b = town();
                int l = random.nextBoolean() ? 0 : some(10);
                compare("lays", yard.lays(a, b, l), model.lays(a, b, l), a, b, l);
                break;
            }
            case 5: case 6: {
                int p = post();
                compare("paint", yard.paint(p), model.paint(p), p);
                break;
            }
            case 7: case 8: {
                int p = post();
                int x = town();
                compare("move", yard.move(p, x), model.move(p, x), p, x);
                break;
            }
            case 9: {
                if (random.nextInt(3) == 0) {
                    int p = post();
                    compare("retire", yard.retire(p), model.retire(p), p);
                }
                break;
            }
            default:
                set();
                break;
        }
    }

    private void set() {
        switch (random.nextInt(4)) {
            case 0:
                compare("keep", yard.keep(), model.keep());
                break;
            case 1:
                compare("back", yard.back(), model.back());
                break;
            default: {
                int times = random.nextInt(random.nextInt(6) == 0 ? 10 : 2);
                for (int i = 0; i <= times; i++) {
                    compare("undo", yard.undo(), model.undo());
                }
                break;
            }
        }
    }

    private void ask() {
        int p = post();
        int w = walker();
        int y = town();
        int u = town();
        int what = some(3);
        switch (random.nextInt(13)) {
            case 0:
                compare("road", yard.road(y, u), model.road(y, u), y, u);
                break;
            case 1:
                compare("post", yard.post(p, what), model.post(p, what), p, what);
                break;
            case 2: case 3:
                compare("arm", yard.arm(p, y, what), model.arm(p, y, what), p, y, what);
                break;
            case 4:
                compare("walker", yard.walker(w, what), model.walker(w, what), w, what);
                break;
            case 5:
                compare("comes", yard.comes(w), model.comes(w), w);
                break;
            case 6: {
                int k = random.nextBoolean() ? some(41) : some(6);
                compare("trail", yard.trail(w, k), model.trail(w, k), w, k);
                break;
            }
            case 7:
                compare("far", yard.far(y, u), model.far(y, u), y, u);
                break;
            case 8: {
                int k = some(13);
                compare("count", yard.count(k), model.count(k), k);
                break;
            }
            case 9:
                tell();
                break;
            case 10:
                see();
                break;
            case 11:
                if (random.nextInt(4) == 0) {
                    compare("forget", yard.forget(), model.forget());
                }
                break;
            default: {
                int letter = random.nextInt(140) - 5;
                compare("write", yard.write(letter), model.write(letter), letter);
                compare("fault", yard.fault(), model.fault());
                break;
            }
        }
    }

    /** Mostly what is so of some town, now and then what is not. */
    private void tell() {
        int x = random.nextInt(model.count(0));
        int y = town();
        int u = random.nextInt(8) == 0 ? town() : stepOf(x, y);
        int m = random.nextInt(8) == 0 ? some(73) : model.far(x, y);
        compare("told", yard.told(y, u, m), model.told(y, u, m), y, u, m);
        compare("stood", yard.stood(), model.stood());
        compare("next", yard.next(), model.next());
        if (model.stood() == 0) {
            compare("forget", yard.forget(), model.forget());
        }
    }

    private int stepOf(int x, int y) {
        for (int t = 0; t < model.count(0); t++) {
            if (t != x && model.road(x, t) > 0 && model.far(t, y) >= 0
                && model.road(x, t) + model.far(t, y) == model.far(x, y)) {
                return t;
            }
        }
        return town();
    }

    private void see() {
        int p = post();
        int y = town();
        int u = random.nextInt(4) == 0 ? town() : model.arm(p, y, 2);
        compare("seen", yard.seen(p, y, u), model.seen(p, y, u), p, y, u);
        for (int i = 0; i < model.count(1); i++) {
            compare("kinds", yard.kinds(i), model.kinds(i), i);
        }
    }

    private void deepAsk() {
        int what = some(2);
        int w = walker();
        int x = some(11);
        int part = some(2);
        int z = random.nextInt(20) == 0 ? wild() : some(10000);
        int n = random.nextInt(20) == 0 ? wild() : some(61);
        int third = some(3);
        switch (random.nextInt(8)) {
            case 0:
                compare("lost", yard.lost(), model.lost());
                break;
            case 1:
                compare("helps", yard.helps(what), model.helps(what), what);
                break;
            case 2:
                compare("paints", yard.paints(what), model.paints(what), what);
                break;
            case 3:
                compare("cover", yard.cover(what), model.cover(what), what);
                break;
            case 4:
                compare("likely", yard.likely(w, x, part), model.likely(w, x, part), w, x, part);
                break;
            case 5:
                compare("next", yard.next(), model.next());
                break;
            default:
                compare("century", yard.century(z, n, third), model.century(z, n, third), z, n, third);
                break;
        }
    }
}
