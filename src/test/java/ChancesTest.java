import java.math.BigInteger;

/** Promises 30 and 31: how likely one comes, and centuries by draws. */
public final class ChancesTest {
    private static final int BAD = SignpostYard.BAD;
    private static final int LOW = Integer.MIN_VALUE, HIGH = Integer.MAX_VALUE;

    public static void main(String[] args) {
        likelyByOne();
        likelyByTwo();
        likelyBehindItsOwnTurns();
        likelyBad();
        centuryBad();
        centuryOfOne();
        centuryOfYears();
        centuryOfWalkers();
        nothingChanges();
        Due.end();
    }

    private static void likely(SignpostYard x, int w, int tenths, int above, int below) {
        Due.is("likely(" + w + ", " + tenths + ", 0)", x.likely(w, tenths, 0), above);
        Due.is("likely(" + w + ", " + tenths + ", 1)", x.likely(w, tenths, 1), below);
    }

    private static void likelyByOne() {
        SignpostYard x = Due.laid("n3;r0,1,1;r0,2,1;p0,0,0;w0,1;w2,0;");
        likely(x, 0, 0, 1, 1);
        likely(x, 0, 3, 7, 10);
        likely(x, 0, 4, 3, 5);
        likely(x, 0, 5, 1, 2);
        likely(x, 0, 10, 0, 1);
        likely(x, 1, 7, 1, 1);
        x.retire(0);
        likely(x, 0, 10, 1, 1);
        x = Due.laid("n3;r0,1,1;p0,2,0;w2,1;");
        likely(x, 0, 5, 0, 1);
    }

    private static void likelyByTwo() {
        SignpostYard x = Due.laid("n5;r0,1,2;r0,2,1;r1,3,1;r1,4,1;p0,0,0;p0,1,0;w0,3;w1,3;");
        likely(x, 0, 3, 49, 100);
        likely(x, 0, 4, 9, 25);
        likely(x, 0, 5, 1, 4);
        likely(x, 1, 4, 3, 5);
        x.retire(1);
        likely(x, 0, 3, 7, 10);
        x = Due.laid("n8;r0,1,1;r1,2,1;r2,3,1;r3,4,1;r4,5,1;r5,6,1;"
            + "p0,0,0;p0,1,0;p0,2,0;p0,3,0;p0,4,0;p0,5,0;w0,6;");
        likely(x, 0, 0, 1, 1);
        likely(x, 0, 10, 0, 1);
        // the first has but one road, so its turn is none; the other five must not be turned
        likely(x, 0, 1, 59049, 100000);
    }

    private static void likelyBehindItsOwnTurns() {
        SignpostYard x = Due.laid("n3;r0,1,1;r0,2,1;p2,0,0;w0,1;");
        likely(x, 0, 0, 0, 1);
        likely(x, 0, 3, 3, 10);
        x = Due.laid("n3;r0,1,1;r0,2,1;p1,0,39;w0,1;");
        likely(x, 0, 3, 7, 10);
        x.year();
        likely(x, 0, 3, 3, 10);
        x = Due.laid("n3;r0,1,1;r0,2,1;p3,0,0;w0,1;w2,1;");
        likely(x, 0, 3, 7, 10);
        x.lays(0, 2, 0);
        x.lays(0, 1, 0);
        likely(x, 0, 3, 0, 1);
    }

    private static void likelyBad() {
        SignpostYard x = new SignpostYard();
        Due.is("likely(4, 0, 0)", x.likely(4, 0, 0), BAD);
        Due.is("likely(-1, 0, 0)", x.likely(-1, 0, 0), BAD);
        Due.is("likely(0, 11, 0)", x.likely(0, 11, 0), BAD);
        Due.is("likely(0, -1, 0)", x.likely(0, -1, 0), BAD);
        Due.is("likely(0, 0, 2)", x.likely(0, 0, 2), BAD);
        Due.is("likely(0, 0, -1)", x.likely(0, 0, -1), BAD);
        Due.is("likely(lowest)", x.likely(LOW, HIGH, LOW), BAD);
    }

    private static void centuryBad() {
        SignpostYard x = new SignpostYard();
        Due.is("century(-1, 1, 0)", x.century(-1, 1, 0), BAD);
        Due.is("century(10000, 1, 0)", x.century(10000, 1, 0), BAD);
        Due.is("century(0, 0, 0)", x.century(0, 0, 0), BAD);
        Due.is("century(0, 61, 0)", x.century(0, 61, 0), BAD);
        Due.is("century(0, 1, 3)", x.century(0, 1, 3), BAD);
        Due.is("century(0, 1, -1)", x.century(0, 1, -1), BAD);
        Due.is("century(lowest)", x.century(LOW, HIGH, LOW), BAD);
        Due.holds("century(9999, 60, 0)", x.century(9999, 60, 0) >= 0);
        Due.holds("century(0, 1, 2)", x.century(0, 1, 2) > 0);
    }

    private static int draw(int z, int time) {
        BigInteger x = BigInteger.valueOf(7919L * z + 6151L * time + 1);
        return x.multiply(x).mod(BigInteger.valueOf(65521)).intValue() / 2;
    }

    /** One time alone: what it draws is told by the years and the roads. */
    private static void centuryOfOne() {
        SignpostYard x = new SignpostYard();
        for (int z = 0; z < 10000; z += 3) {
            if (z % 750 == 0) {
                x = new SignpostYard();
            }
            int draw = draw(z, 0);
            int act = draw / 64 % 6;
            int town = draw / 8 % 6;
            int miles = 23;
            if (act == 3) {
                int had = x.road(town, (town + 1) % 6);
                miles = had > 0 ? miles - had : miles + draw / 512 % 9 + 1;
            }
            boolean asksYears = z % 2 == 0;
            Due.is("century(" + z + ", 1, ..)", x.century(z, 1, asksYears ? 1 : 2),
                asksYears ? act == 2 ? 1 : 0 : miles);
        }
        x = Due.laid("n3;p0,0,0;w0,1;");
        for (int z = 0; z < 300; z++) {
            int draw = draw(z, 0);
            int laid = draw / 64 % 6 == 3 ? draw / 512 % 9 + 1 : 0;
            Due.is("a road laid by century(" + z + ", 1, 2)", x.century(z, 1, 2), laid);
        }
    }

    /** By years alone: those who are 60 when the time is over. */
    private static void centuryOfYears() {
        SignpostYard x = Due.laid("n2;r0,1,1;p0,0,59;p1,1,57;p2,0,54;p3,1,50;w0,1;");
        int[] ages = {59, 57, 54, 50};
        for (int z = 0; z < 400; z++) {
            int n = z % 60 + 1;
            int years = 0;
            for (int time = 0; time < n; time++) {
                years += draw(z * 24, time) / 64 % 6 == 2 ? 1 : 0;
            }
            int retired = 0;
            for (int age : ages) {
                retired += age + years >= 60 ? 1 : 0;
            }
            Due.is("century(" + z * 24 + ", " + n + ", 1)", x.century(z * 24, n, 1), retired);
        }
    }

    private static void centuryOfWalkers() {
        SignpostYard x = new SignpostYard();
        // z 0 draws 0 first: post 0 is painted as it is, and an hour goes by
        Due.is("century(0, 1, 0)", x.century(0, 1, 0), 0);
        Due.is("century(0, 1, 1)", x.century(0, 1, 1), 0);
        Due.is("century(0, 1, 2)", x.century(0, 1, 2), 23);
        x = Due.laid("n2;r0,1,1;p0,0,0;w0,1;w1,0;");
        Due.is("both come in an hour", x.century(0, 1, 0), 2);
        // by the first draw whose act is 1 the post is moved: from then on it points to where it stands
        int z = 0;
        while (draw(z, 0) / 64 % 6 != 1 || draw(z, 0) / 8 % 2 != 1) {
            z++;
        }
        Due.is("the one who asks the moved post", Due.laid("n2;r0,1,1;p0,0,0;w1,0;").century(z, 1, 0), 0);
        Due.is("the one who asks none", Due.laid("n2;r0,1,1;p0,0,0;w0,1;").century(z, 1, 0), 1);
        SignpostYard stale = Due.laid("n3;r0,1,1;r1,2,1;p0,0,0;w0,2;");
        stale.lays(0, 2, 1);
        // painted by the draw 0 it points to 2
        Due.is("a painted post", stale.century(0, 1, 0), 1);
        stale.retire(0);
        stale.lays(0, 1, 2);
        Due.is("a retired post is not painted, but the shortest road leads there", stale.century(0, 1, 0), 1);
        stale.lays(0, 2, 3);
        Due.is("a retired post is not painted", stale.century(0, 1, 0), 0);
    }

    private static void nothingChanges() {
        SignpostYard x = new SignpostYard();
        x.pass(1);
        x.century(123, 60, 0);
        x.likely(0, 5, 0);
        int[] counts = {6, 5, 4, 1, 0, 7, 0, 0, 0, 0, 1, 0, 0};
        for (int i = 0; i < counts.length; i++) {
            Due.is("drawn only: count(" + i + ")", x.count(i), counts[i]);
        }
        Due.is("drawn only: arm(0, 2, 2)", x.arm(0, 2, 2), 1);
        Due.is("drawn only: post(3, 1)", x.post(3, 1), 2);
        Due.is("drawn only: lost()", x.lost(), 7);
    }
}
