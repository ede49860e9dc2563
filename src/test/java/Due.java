/** Compares answers with those that are due, and counts the wrong ones. */
final class Due {
    private static int wrong = 0;
    private static int asked = 0;
    private static String about = "";

    private Due() {
    }

    /** What the next answers are about; told ahead of each wrong one. */
    static void about(String what) {
        about = what.isEmpty() ? "" : what + ": ";
    }

    static void is(String call, long got, long want) {
        asked++;
        if (got != want) {
            wrong++;
            if (wrong <= 50) {
                System.out.println(about + call + " answered " + got + ", due is " + want);
            }
        }
    }

    static void holds(String what, boolean so) {
        is(what, so ? 1 : 0, 1);
    }

    /** An object with its text written, but not laid. */
    static SignpostYard written(String text) {
        SignpostYard x = new SignpostYard();
        write(x, text);
        return x;
    }

    static void write(SignpostYard x, String text) {
        for (int i = 0; i < text.length(); i++) {
            x.write(text.charAt(i));
        }
    }

    /** An object laid by a text that must be without fault. */
    static SignpostYard laid(String text) {
        SignpostYard x = written(text);
        holds("lay() of " + text, x.lay() > 0);
        return x;
    }

    static boolean anyWrong() {
        return wrong > 0;
    }

    static void end() {
        System.out.println(asked + " answers looked at, " + wrong + " wrong");
        if (wrong > 0) {
            System.exit(1);
        }
    }
}
