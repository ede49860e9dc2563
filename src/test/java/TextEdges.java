/** Edges of promises 1 to 5: a new object, THE TEXT, its FAULT, what is LAID. */
final class TextEdges {
    private static final int BAD = SignpostYard.BAD, NO = SignpostYard.NO;
    private static final int FULL = SignpostYard.FULL, NONE = SignpostYard.NONE;
    private static final int LOW = Integer.MIN_VALUE, HIGH = Integer.MAX_VALUE;
    private static final String FIRST = "n6;r0,1,2;r1,2,3;r2,3,1;r3,4,4;r4,5,2;r5,0,6;r1,4,5;"
        + "p0,0,10;p1,1,45;p2,4,30;p3,2,20;p0,5,59;w0,3;w5,2;w2,0;w4,1;";

    private TextEdges() {
    }

    static void all() {
        newTextIsEmpty();
        newIsAsTold();
        newObjectsAreApart();
        letterLowest();
        letterHighest();
        letterTooSmall();
        letterTooLarge();
        letterAroundTheWorld();
        textFull();
        textFullAndBad();
        textFullAndWiped();
        wipeOfNothing();
        wipeOfAll();
        wipeLeavesNoLetter();
        noFaultInNothing();
        noFaultInAll();
        townsFewestAndMost();
        townsTooFewOrMany();
        townsUntold();
        townsToldOnce();
        townsToldFirst();
        milesFewestAndMost();
        milesTooFewOrMany();
        roadsBetweenTownsThereAre();
        roadsBetweenUnlikeOnes();
        roadsOfSeveral();
        kindsFirstAndLast();
        kindsBeyond();
        postsInTownsThereAre();
        agesFirstAndLast();
        agesBeyond();
        postsSix();
        walkersInTownsThereAre();
        walkersUnlike();
        walkersFive();
        itemsOfNoLetter();
        numbersOfOneOrTwoFigures();
        numbersParted();
        numbersAsMany();
        itemsEnd();
        faultIsTheFirst();
        faultIsThePlaceOfTheItem();
        laySmallest();
        layLargest();
        layLongest();
        layOfNothing();
        layOfAFault();
        layOfNoPost();
        layOfNoWalker();
        layLeavesTheText();
        layBeginsAnew();
        layBehindTrials();
        layRefusedChangesNothing();
    }

    // ---- promise 1

    private static void newTextIsEmpty() {
        Edge.of(1, "THE TEXT is empty");
        SignpostYard x = new SignpostYard();
        Due.is("count(12)", x.count(12), 0);
        Due.is("fault()", x.fault(), NONE);
        Due.is("lay()", x.lay(), NO);
        Due.is("wipe()", x.wipe(), 0);
    }

    private static void newIsAsTold() {
        Edge.of(1, "at first " + FIRST + ")");
        SignpostYard x = Due.laid(FIRST);
        x.wipe();
        Stand.same("laid by that text", x, new SignpostYard());
    }

    private static void newObjectsAreApart() {
        Edge.of(1, "As told");
        SignpostYard x = new SignpostYard();
        x.write('n');
        x.pass(1);
        x.lays(0, 1, 0);
        x.retire(0);
        x.told(0, 0, 0);
        x.keep();
        SignpostYard y = new SignpostYard();
        y.year();
        y.undo();
        Stand.same("another object", y, new SignpostYard());
        Due.is("the first one", x.count(3), 1);
        Due.is("its years", x.count(4), 0);
    }

    // ---- promise 2

    private static void letterLowest() {
        Edge.of(2, "A letter (32 to 126, as in ASCII)");
        Due.is("write(32)", new SignpostYard().write(32), 1);
        Due.is("write(33)", new SignpostYard().write(33), 1);
    }

    private static void letterHighest() {
        Edge.of(2, "A letter (32 to 126, as in ASCII)");
        Due.is("write(126)", new SignpostYard().write(126), 1);
        Due.is("write(125)", new SignpostYard().write(125), 1);
    }

    private static void badLetter(int letter) {
        SignpostYard x = Due.written("n");
        Due.is("write(" + letter + ")", x.write(letter), BAD);
        Due.is("letters behind write(" + letter + ")", x.count(12), 1);
        Due.is("the next letter behind write(" + letter + ")", x.write('2'), 2);
        Due.is("THE TEXT behind write(" + letter + ")", x.write(';') == 3 ? x.fault() : 0, NONE);
    }

    private static void letterTooSmall() {
        Edge.of(2, "A letter (32 to 126, as in ASCII)");
        badLetter(31);
        badLetter(0);
        badLetter(-1);
        badLetter(LOW);
    }

    private static void letterTooLarge() {
        Edge.of(2, "A letter (32 to 126, as in ASCII)");
        badLetter(127);
        badLetter(128);
        badLetter(255);
        badLetter(HIGH);
    }

    /** What a cast to a byte or a char would make a letter of. */
    private static void letterAroundTheWorld() {
        Edge.of(2, "A letter (32 to 126, as in ASCII)");
        badLetter('2' + 256);
        badLetter('2' - 256);
        badLetter('2' + 65536);
        badLetter('2' - 65536);
    }

    private static SignpostYard full() {
        SignpostYard x = new SignpostYard();
        for (int i = 1; i < 200; i++) {
            x.write('n');
        }
        Due.is("letters ahead of the last one", x.count(12), 199);
        Due.is("write() of the last one", x.write('n'), 200);
        return x;
    }

    private static void textFull() {
        Edge.of(2, "A TEXT is letters (200 at most)");
        SignpostYard x = full();
        Due.is("write() of one more", x.write('n'), FULL);
        Due.is("write() of one more again", x.write(';'), FULL);
        Due.is("letters", x.count(12), 200);
    }

    private static void textFullAndBad() {
        Edge.of(2, "BAD; FULL.");
        SignpostYard x = full();
        Due.is("write(31)", x.write(31), BAD);
        Due.is("write(127)", x.write(127), BAD);
        Due.is("write(32)", x.write(32), FULL);
        Due.is("write(126)", x.write(126), FULL);
    }

    private static void textFullAndWiped() {
        Edge.of(2, "comes behind THE TEXT: how long it is");
        SignpostYard x = full();
        x.wipe();
        Due.is("write() behind wipe()", x.write('n'), 1);
        Due.is("write() behind that", x.write('2'), 2);
        x.write(';');
        Due.is("nothing is left of the text ahead", x.fault(), NONE);
    }

    // ---- promise 3

    private static void wipeOfNothing() {
        Edge.of(3, "THE TEXT is empty: how long it was");
        SignpostYard x = new SignpostYard();
        Due.is("wipe()", x.wipe(), 0);
        Due.is("wipe() again", x.wipe(), 0);
        Due.is("count(12)", x.count(12), 0);
        Stand.same("wiped", x, new SignpostYard());
    }

    private static void wipeOfAll() {
        Edge.of(3, "THE TEXT is empty: how long it was");
        SignpostYard x = full();
        Due.is("wipe()", x.wipe(), 200);
        Due.is("wipe() again", x.wipe(), 0);
        Due.is("fault()", x.fault(), NONE);
        Stand.sameNow("all but THE TEXT", x, new SignpostYard());
    }

    private static void wipeLeavesNoLetter() {
        Edge.of(3, "THE TEXT is empty");
        SignpostYard x = Due.written("w0,1;w0,1;p0,0,0;");
        x.wipe();
        Due.write(x, "w0,1");
        Due.is("the letter behind it is gone", x.fault(), 0);
        Due.is("lay()", x.lay(), NO);
        x.write(';');
        Due.is("fault()", x.fault(), NONE);
        Due.is("the post behind it is gone", x.lay(), NO);
    }

    // ---- promise 4

    private static void fault(String text, int due) {
        SignpostYard x = Due.written(text);
        Due.is("fault() of " + text, x.fault(), due);
        Due.is("fault() of " + text + " again", x.fault(), due);
        Due.is("lay() of " + text + " with a post and a walker behind it", layable(text), due == NONE ? 1 : 0);
    }

    /** Whether the text can be laid when a post and a walker, as far as there is room, stand behind it. */
    private static int layable(String text) {
        int posts = text.length() - text.replace("p", "").length();
        int walkers = text.length() - text.replace("w", "").length();
        return Due.written(text + (posts > 0 ? "" : "p0,0,0;") + (walkers > 0 ? "" : "w0,1;")).lay() > 0 ? 1 : 0;
    }

    private static void noFaultInNothing() {
        Edge.of(4, "NONE.");
        Due.is("fault() of an empty text", new SignpostYard().fault(), NONE);
        SignpostYard x = Due.written("x");
        Due.is("fault() ahead of wipe()", x.fault(), 0);
        x.wipe();
        Due.is("fault() behind wipe()", x.fault(), NONE);
    }

    /** 28 roads, each pair of eight towns once. */
    private static String allRoads() {
        StringBuilder text = new StringBuilder("n8;");
        for (int a = 0; a < 8; a++) {
            for (int b = a + 1; b < 8; b++) {
                text.append('r').append(a).append(',').append(b).append(",9;");
            }
        }
        return text.toString();
    }

    private static void noFaultInAll() {
        Edge.of(4, "A TEXT is letters (200 at most)");
        SignpostYard x = Due.written(allRoads());
        Due.is("199 letters", x.count(12), 199);
        Due.is("fault() of 199 letters", x.fault(), NONE);
        x.write('w');
        Due.is("fault() at the 200th letter", x.fault(), 199);
        Due.is("no room for the rest of it", x.write('0'), FULL);
        Due.is("fault() still", x.fault(), 199);
    }

    private static void townsFewestAndMost() {
        Edge.of(4, "there are N (2 to 8) TOWNS");
        fault("n2;", NONE);
        fault("n3;", NONE);
        fault("n7;", NONE);
        fault("n8;", NONE);
        fault("n02;", NONE);
        fault("n08;", NONE);
        Due.is("towns of n2;", Due.laid("n2;p0,1,0;w0,1;").count(0), 2);
        Due.is("towns of n8;", Due.laid("n8;p0,7,0;w0,7;").count(0), 8);
    }

    private static void townsTooFewOrMany() {
        Edge.of(4, "there are N (2 to 8) TOWNS");
        fault("n0;", 0);
        fault("n1;", 0);
        fault("n9;", 0);
        fault("n10;", 0);
        fault("n00;", 0);
        fault("n01;", 0);
        fault("n09;", 0);
        fault("n99;", 0);
        fault("n12;", 0);
    }

    private static void townsUntold() {
        Edge.of(4, "(6 without;");
        fault("w5,0;", NONE);
        fault("w6,0;", 0);
        fault("p0,5,0;", NONE);
        fault("p0,6,0;", 0);
        fault("r5,0,1;", NONE);
        fault("r6,0,1;", 0);
        SignpostYard x = Due.written("n8;p0,7,0;w0,7;");
        Due.is("fault() of eight", x.fault(), NONE);
        x.wipe();
        Due.write(x, "w0,6;");
        Due.is("six again, when a text of eight was read ahead of it", x.fault(), 0);
    }

    private static void townsToldOnce() {
        Edge.of(4, "told at most once");
        fault("n6;n6;", 3);
        fault("n2;n8;", 3);
        fault("n2;w0,1;n2;", 8);
    }

    private static void townsToldFirst() {
        Edge.of(4, "ahead of all others");
        fault("r0,1,1;n6;", 7);
        fault("p0,0,0;n6;", 7);
        fault("w0,1;n6;", 5);
    }

    private static void milesFewestAndMost() {
        Edge.of(4, "a ROAD of L (1 to 9) MILES");
        fault("r0,1,1;", NONE);
        fault("r0,1,9;", NONE);
        fault("r0,1,01;", NONE);
        fault("r0,1,09;", NONE);
    }

    private static void milesTooFewOrMany() {
        Edge.of(4, "a ROAD of L (1 to 9) MILES");
        fault("r0,1,0;", 0);
        fault("r0,1,00;", 0);
        fault("r0,1,10;", 0);
        fault("r0,1,99;", 0);
    }

    private static void roadsBetweenTownsThereAre() {
        Edge.of(4, "between TOWNS A and B (unlike;");
        fault("n2;r0,1,1;", NONE);
        fault("n2;r1,0,1;", NONE);
        fault("n2;r0,2,1;", 3);
        fault("n2;r2,0,1;", 3);
        fault("n8;r7,0,1;", NONE);
        fault("n8;r0,7,1;", NONE);
        fault("n8;r0,8,1;", 3);
        fault("n8;r8,0,1;", 3);
        fault("n8;r0,99,1;", 3);
    }

    private static void roadsBetweenUnlikeOnes() {
        Edge.of(4, "between TOWNS A and B (unlike;");
        fault("r0,0,1;", 0);
        fault("r5,5,1;", 0);
        fault("r05,5,1;", 0);
        fault("r5,4,1;", NONE);
    }

    private static void roadsOfSeveral() {
        Edge.of(4, "of several between the same two the last one counts");
        fault("r0,1,1;r0,1,2;", NONE);
        fault("r0,1,1;r1,0,2;r0,1,0;", 14);
        SignpostYard x = Due.laid("n2;r0,1,1;r0,1,9;r1,0,4;p0,0,0;w0,1;");
        Due.is("road(0, 1)", x.road(0, 1), 4);
        Due.is("road(1, 0)", x.road(1, 0), 4);
        Due.is("roads", x.count(5), 1);
        Due.is("the arm's miles", x.arm(0, 1, 1), 4);
    }

    private static void kindsFirstAndLast() {
        Edge.of(4, "a POST of KIND K (0 PLAIN, 1 WORN, 2 LYING, 3 DRUNK)");
        fault("p0,0,0;", NONE);
        fault("p3,0,0;", NONE);
        fault("p03,0,0;", NONE);
    }

    private static void kindsBeyond() {
        Edge.of(4, "a POST of KIND K (0 PLAIN, 1 WORN, 2 LYING, 3 DRUNK)");
        fault("p4,0,0;", 0);
        fault("p04,0,0;", 0);
        fault("p10,0,0;", 0);
        fault("p99,0,0;", 0);
    }

    private static void postsInTownsThereAre() {
        Edge.of(4, "in TOWN X");
        fault("n2;p0,1,0;", NONE);
        fault("n2;p0,2,0;", 3);
        fault("n8;p0,7,0;", NONE);
        fault("n8;p0,8,0;", 3);
        fault("n8;p0,99,0;", 3);
    }

    private static void agesFirstAndLast() {
        Edge.of(4, "A (0 to 59) YEARS old");
        fault("p0,0,0;", NONE);
        fault("p0,0,00;", NONE);
        fault("p0,0,59;", NONE);
    }

    private static void agesBeyond() {
        Edge.of(4, "A (0 to 59) YEARS old");
        fault("p0,0,60;", 0);
        fault("p0,0,61;", 0);
        fault("p0,0,99;", 0);
    }

    private static void postsSix() {
        Edge.of(4, "6 at most, 0, 1, ..");
        String five = "p0,0,0;p0,0,0;p0,0,0;p0,0,0;p0,0,0;";
        fault(five, NONE);
        fault(five + "p0,0,0;", NONE);
        fault(five + "p0,0,0;p0,0,0;", 42);
        fault(five + "p0,0,0;w0,1;p0,0,0;", 47);
    }

    private static void walkersInTownsThereAre() {
        Edge.of(4, "a WALKER in TOWN X who would be in TOWN Y");
        fault("n2;w0,1;", NONE);
        fault("n2;w1,0;", NONE);
        fault("n2;w0,2;", 3);
        fault("n2;w2,0;", 3);
        fault("n8;w7,0;", NONE);
        fault("n8;w0,7;", NONE);
        fault("n8;w0,8;", 3);
        fault("n8;w8,0;", 3);
        fault("n8;w99,0;", 3);
    }

    private static void walkersUnlike() {
        Edge.of(4, "who would be in TOWN Y (unlike)");
        fault("w0,0;", 0);
        fault("w5,5;", 0);
        fault("w5,05;", 0);
        fault("w5,4;", NONE);
    }

    private static void walkersFive() {
        Edge.of(4, "5 at most, 0, 1, ..");
        String four = "w0,1;w0,1;w0,1;w0,1;";
        fault(four, NONE);
        fault(four + "w0,1;", NONE);
        fault(four + "w0,1;w0,1;", 25);
        fault(four + "w0,1;p0,0,0;w0,1;", 32);
    }

    private static void itemsOfNoLetter() {
        Edge.of(4, "ITEMS one behind the other, each a letter, then numbers");
        for (int letter = 32; letter <= 126; letter++) {
            boolean known = letter == 'r' || letter == 'p';
            fault((char) letter + "0,1,1;", known ? NONE : 0);
            fault((char) letter + "0,1;", letter == 'w' ? NONE : 0);
            fault((char) letter + "2;", letter == 'n' ? NONE : 0);
            fault((char) letter + ";", 0);
        }
        fault("0,1;", 0);
        fault("ww0,1;", 0);
    }

    private static void numbersOfOneOrTwoFigures() {
        Edge.of(4, "numbers (one or two figures)");
        fault("r0,1,1;", NONE);
        fault("r00,01,01;", NONE);
        fault("r000,1,1;", 0);
        fault("r0,001,1;", 0);
        fault("r0,1,001;", 0);
        fault("r,1,1;", 0);
        fault("r0,,1;", 0);
        fault("r0,1,;", 0);
        fault("n;", 0);
        fault("n002;", 0);
        fault("w/,1;", 0);
        fault("w:,1;", 0);
        for (int letter = 32; letter <= 126; letter++) {
            boolean figure = letter >= '0' && letter <= '9';
            fault("p0,0," + (char) letter + ";", figure ? NONE : 0);
            fault("p0,0,1" + (char) letter + ";", figure ? NONE : letter == ';' ? 7 : 0);
            fault("p0,0," + (char) letter + "1;", letter >= '0' && letter <= '5' ? NONE : 0);
        }
        fault("w-0,1;", 0);
        fault("w+0,1;", 0);
        fault("w0 ,1;", 0);
        fault("w 0,1;", 0);
    }

    private static void numbersParted() {
        Edge.of(4, "parted by ,");
        fault("w0;1;", 0);
        fault("w0.1;", 0);
        fault("w0-1;", 0);
        fault("w0+1;", 0);
        fault("w01;", 0);
        fault("w0,,1;", 0);
        fault("w,0,1;", 0);
        fault("r0,1;1;", 0);
        fault("p0 0,0;", 0);
    }

    private static void numbersAsMany() {
        Edge.of(4, "a letter, then numbers (one or two figures) parted by ,");
        fault("n2,2;", 0);
        fault("r0,1;", 0);
        fault("r0;", 0);
        fault("r;", 0);
        fault("r0,1,1,1;", 0);
        fault("p0,0;", 0);
        fault("p0,0,0,0;", 0);
        fault("w0;", 0);
        fault("w0,1,1;", 0);
    }

    private static void itemsEnd() {
        Edge.of(4, "a ; behind the last one");
        String[] beginnings = {"w0,1", "w0,", "w0", "w", "r0,1,1", "r0,1,", "p0,0,5", "p0,0,59", "n"};
        for (String beginning : beginnings) {
            Due.is("fault() of " + beginning, Due.written(beginning).fault(), 0);
            Due.is("fault() of r0,1,1;" + beginning, Due.written("r0,1,1;" + beginning).fault(), 7);
        }
        fault("w0,1,", 0);
        fault("w0,1:", 0);
        fault("w0,1;;", 5);
        fault(";", 0);
        fault(";w0,1;", 0);
        fault("w0,1; ", 5);
    }

    private static void faultIsTheFirst() {
        Edge.of(4, "the first letter of the first ITEM that is not so");
        fault("n6;w0,0;w1,1;", 3);
        fault("x;n9;", 0);
        fault("w0,1;w0,9;x", 5);
        fault("n6;r0,1,1;r0,1,0;p9,9,9;", 10);
    }

    private static void faultIsThePlaceOfTheItem() {
        Edge.of(4, "the place (from 0 on) of the first letter");
        fault("w0,1;p0,0,60;", 5);
        fault("n8;w0,1;r0,7,10;", 8);
        fault("w00,01;w0,1x", 7);
    }

    // ---- promise 5

    private static void laySmallest() {
        Edge.of(5, "of a POST and a WALKER at least");
        SignpostYard x = Due.written("n2;w1,0;p0,0,0;");
        Due.is("lay()", x.lay(), 1);
        int[] counts = {2, 1, 1, 0, 0, 0, 0, 0, 0, 0, 0, 0, 15};
        for (int i = 0; i < counts.length; i++) {
            Due.is("count(" + i + ")", x.count(i), counts[i]);
        }
    }

    private static void layLargest() {
        Edge.of(5, "LAID: how many POSTS");
        SignpostYard x = Due.written("n8;p0,0,0;p1,1,1;p2,2,2;p3,7,59;p0,7,0;p1,0,58;w0,7;w7,0;w1,2;w2,1;w3,4;");
        Due.is("lay()", x.lay(), 6);
        int[] counts = {8, 6, 5, 0, 0, 0, 0, 0, 0, 0, 0, 0, 72};
        for (int i = 0; i < counts.length; i++) {
            Due.is("count(" + i + ")", x.count(i), counts[i]);
        }
        Due.is("the last post's kind", x.post(5, 0), 1);
        Due.is("the last post's age", x.post(5, 2), 58);
        Due.is("the last walker's town", x.walker(4, 1), 4);
    }

    private static void layLongest() {
        Edge.of(5, "A TEXT is letters (200 at most)");
        StringBuilder text = new StringBuilder();
        for (int i = 0; i < 24; i++) {
            text.append("r0,1,").append(i % 9 + 1).append(';');
        }
        text.append("p0,0,0;w0,1;w0,1;w0,1;w0,1;w0,1;");
        SignpostYard x = Due.written(text.toString());
        Due.is("letters", x.count(12), 200);
        Due.is("lay()", x.lay(), 1);
        Due.is("road(0, 1)", x.road(0, 1), 6);
        Due.is("walkers", x.count(2), 5);
        Due.is("letters stay", x.count(12), 200);
        x = Due.written(text.substring(0, 199));
        Due.is("a letter less: fault()", x.fault(), 195);
        Due.is("a letter less: lay()", x.lay(), NO);
    }

    private static void refused(String text) {
        Due.is("lay() of " + text, Due.written(text).lay(), NO);
    }

    private static void layOfNothing() {
        Edge.of(5, "(NO else;");
        refused("");
        SignpostYard x = Due.laid("n2;p0,0,0;w0,1;");
        x.wipe();
        Due.is("lay() of a wiped text", x.lay(), NO);
        Due.is("what stands", x.count(0), 2);
    }

    private static void layOfAFault() {
        Edge.of(5, "LAID is a TEXT without FAULT");
        refused("p0,0,0;w0,1;x");
        refused("p0,0,0;w0,1");
        refused("p0,0,0;w0,1;n6;");
        refused("x;p0,0,0;w0,1;");
        refused("n1;p0,0,0;w0,1;");
        refused("p0,0,0;p0,0,0;p0,0,0;p0,0,0;p0,0,0;p0,0,0;p0,0,0;w0,1;");
        refused("p0,0,0;w0,1;w0,1;w0,1;w0,1;w0,1;w0,1;");
    }

    private static void layOfNoPost() {
        Edge.of(5, "of a POST and a WALKER at least");
        refused("w0,1;");
        refused("n6;r0,1,1;w0,1;w1,0;");
    }

    private static void layOfNoWalker() {
        Edge.of(5, "of a POST and a WALKER at least");
        refused("p0,0,0;");
        refused("n6;r0,1,1;p0,0,0;p1,1,1;");
    }

    private static void layLeavesTheText() {
        Edge.of(5, "(THE TEXT stays)");
        SignpostYard x = Due.written("p0,0,0;w0,1;");
        Due.is("lay()", x.lay(), 1);
        Due.is("letters", x.count(12), 12);
        Due.is("the next letter", x.write('w'), 13);
        Due.is("lay() with a fault now", x.lay(), NO);
        Due.is("wipe()", x.wipe(), 13);
    }

    private static void layBeginsAnew() {
        Edge.of(5, "HOUR 0, YEAR 0, nothing TOLD, SEEN, UNDONE, KEPT (THE TEXT stays)");
        SignpostYard x = Due.written("n3;r0,1,1;r1,2,2;p3,0,58;w0,2;");
        x.pass(20);
        for (int i = 0; i < 10; i++) {
            x.year();
        }
        x.keep();
        x.keep();
        for (int i = 0; i < 6; i++) {
            x.told(0, 0, 0);
            x.seen(0, 0, 0);
        }
        Due.is("lay()", x.lay(), 1);
        SignpostYard fresh = Due.laid("n3;r0,1,1;r1,2,2;p3,0,58;w0,2;");
        Stand.same("laid when much was done", x, fresh);
        x = Due.laid("n3;r0,1,1;r1,2,2;p3,0,58;w0,2;");
        x.pass(3);
        x.lays(0, 2, 1);
        x.retire(0);
        Due.is("lay() of the same once more", x.lay(), 1);
        Stand.same("laid twice", x, Due.laid("n3;r0,1,1;r1,2,2;p3,0,58;w0,2;"));
    }

    private static void layBehindTrials() {
        Edge.of(5, "LAID: how many POSTS; HOUR 0, YEAR 0");
        String text = "n4;r0,1,1;r0,2,1;p0,0,0;p1,1,39;w0,1;w3,0;";
        for (int trial = 0; trial < 8; trial++) {
            SignpostYard x = new SignpostYard();
            x.pass(1);
            x.lays(0, 3, 9);
            Due.write(x, text);
            tried(x, trial);
            Due.is("lay() behind trial " + trial, x.lay(), 2);
            Stand.same("laid behind trial " + trial, x, Due.laid(text));
        }
    }

    private static void tried(SignpostYard x, int trial) {
        switch (trial) {
            case 0: x.likely(3, 10, 0); break;
            case 1: x.century(1234, 60, 0); break;
            case 2: x.helps(0); break;
            case 3: x.paints(0); break;
            case 4: x.cover(0); break;
            case 5: x.kinds(0); break;
            case 6: x.lost(); break;
            default: x.lay(); x.likely(0, 10, 0); break;
        }
    }

    private static void layRefusedChangesNothing() {
        Edge.of(5, "nothing changes then");
        String[] texts = {"", "n2;", "n8;p0,7,0;", "n3;r0,1,9;w0,1;", "n2;p0,0,0;w0,1;!"};
        for (String text : texts) {
            SignpostYard x = RefusedEdges.inUse();
            SignpostYard y = RefusedEdges.inUse();
            x.wipe();
            y.wipe();
            Due.write(x, text);
            Due.write(y, text);
            Due.is("lay() of " + text, x.lay(), NO);
            Stand.same("lay() of " + text, x, y);
        }
    }
}
