import java.math.BigInteger;

/** Promise 2: seed. */
public final class SeedTest {
    private static final long MODULUS = 2147483563L;

    /** A seed, then its draws number 1, 2, 10, 11, 24, 25, 48, 49, 1000 and 10000, as C++'s std::ranlux24_base gives them. */
    private static final int[][] KNOWN = {
        {19780503, 15039276, 16323925, 8342712, 3458016, 15618433, 5184878, 14105831, 1137955, 10303422, 7937952},
        {1, 8871692, 3740959, 907732, 16623825, 3912684, 10568946, 635870, 11953015, 8347823, 14007167},
        {2, 966168, 7481918, 1815466, 16470349, 7825283, 4360677, 1271830, 7128727, 8209292, 16172253},
        {-1, 6147804, 11468564, 2411252, 7622768, 6920865, 7758391, 6806299, 6790811, 4156664, 9287886},
        {-2, 14053243, 7727604, 1503520, 7776074, 3008180, 13966829, 6170679, 11614847, 12158207, 5515616},
        {-170, 8871692, 3740959, 907732, 16623825, 3912684, 10568946, 635870, 11953015, 8347823, 14007167},
        {-169, 8871692, 3740959, 907732, 16623825, 3912684, 10568946, 635870, 11953015, 8347823, 14007167},
        {-171, 7905524, 13036256, 15869483, 153475, 12864699, 6208352, 16141177, 4824117, 14761604, 15561471},
        {2147483563, 8871692, 3740959, 907732, 16623825, 3912684, 10568946, 635870, 11953015, 8347823, 14007167},
        {2147483562, 7905524, 13036256, 15869483, 153475, 12864699, 6208352, 16141177, 4824117, 14761604, 15561471},
        {2147483564, 8871692, 3740959, 907732, 16623825, 3912684, 10568946, 635870, 11953015, 8347823, 14007167},
        {2147483647, 7026579, 12252453, 9140368, 3888036, 9892654, 15372150, 3085511, 14195817, 11161782, 7258694},
        {-2147483648, 15898356, 15993411, 10048100, 3734645, 13805340, 9163711, 3721126, 9371784, 8054718, 6393010},
        {40014, 3740959, 5241959, 15974908, 627291, 11217863, 479299, 11304098, 2409244, 9736291, 15299829},
        {16777216, 4318486, 12314610, 864963, 14447077, 1549703, 16062417, 8679729, 8986217, 15228879, 16714837},
        {123456789, 16484180, 3165854, 3889424, 16365761, 2704664, 14439248, 784811, 12702316, 11131298, 647680},
    };
    private static final int[] KNOWN_DRAWS = {1, 2, 10, 11, 24, 25, 48, 49, 1000, 10000};

    public static void main(String[] args) {
        answers();
        knownDraws();
        againstTheModel();
        zeroStandsForTheDefault();
        startingValueZeroBecomesOne();
        lastWordZeroBorrows();
        nothingEarlierSurvives();
        Check.finish();
    }

    private static void answers() {
        SubBorrow x = new SubBorrow();
        Check.due("seed(0)", x.seed(0), 1);
        Check.due("seed(0) again", x.seed(0), 1);
        Check.due("seed(19780503)", x.seed(19780503), 0);
        for (int[] row : KNOWN) {
            Check.due("seed(" + row[0] + ")", x.seed(row[0]), 0);
        }
        x.skip(17);
        Check.due("seed(0) on a used object", x.seed(0), 1);
    }

    private static void knownDraws() {
        for (int[] row : KNOWN) {
            SubBorrow x = Check.seeded(row[0]);
            int column = 0;
            for (int i = 1; i <= 10000; i++) {
                int got = x.next();
                if (i == KNOWN_DRAWS[column]) {
                    column++;
                    Check.due("seed(" + row[0] + "), next() number " + i, got, row[column]);
                }
            }
        }
    }

    private static void againstTheModel() {
        int s = 1;
        for (int i = 0; i < 2000; i++) {
            s = s * 1664525 + 1013904223;
            compareSeed(s);
        }
        for (int i = -300; i <= 300; i++) {
            compareSeed(i);
            compareSeed(Integer.MIN_VALUE + i);
        }
    }

    private static void compareSeed(int s) {
        SubBorrow x = new SubBorrow();
        Model model = new Model();
        Check.due("seed(" + s + ")", x.seed(s), model.seed(s));
        Check.sameFuture("seed(" + s + ")", x, model);
    }

    private static void zeroStandsForTheDefault() {
        Check.sameFuture("seed(0) against seed(19780503)", Check.seeded(0), Check.seeded(19780503));
    }

    private static void startingValueZeroBecomesOne() {
        Check.due("seed(2147483563)", new SubBorrow().seed(2147483563), 0);
        Check.due("seed(-170)", new SubBorrow().seed(-170), 0);
        Check.sameFuture("seed(2147483563) against seed(1)", Check.seeded(2147483563), Check.seeded(1));
        Check.sameFuture("seed(-170) against seed(1)", Check.seeded(-170), Check.seeded(1));
    }

    /** Works the seeds back from a last value whose low 24 bits are 0: an ordinary seed almost never gives one. */
    private static void lastWordZeroBorrows() {
        BigInteger modulus = BigInteger.valueOf(MODULUS);
        BigInteger back = BigInteger.valueOf(40014).modPow(BigInteger.valueOf(24), modulus).modInverse(modulus);
        for (long m = 1; m <= 127; m++) {
            long start = BigInteger.valueOf(m << 24).multiply(back).mod(modulus).longValueExact();
            lastWordZero((int) start);
            lastWordZero((int) (start + MODULUS));
        }
        Check.due("seed(1604714404), status()", Check.seeded(1604714404).status(), 1);
        Check.due("seed(-542769329), status()", Check.seeded(-542769329).status(), 1);
        Check.due("seed(1604714403), status()", Check.seeded(1604714403).status(), 0);
    }

    private static void lastWordZero(int s) {
        Check.due("seed(" + s + "), status()", Check.seeded(s).status(), 1);
        compareSeed(s);
        SubBorrow x = Check.seeded(s);
        x.seed(1);
        Check.due("seed(1) after seed(" + s + "), status()", x.status(), 0);
    }

    private static void nothingEarlierSurvives() {
        for (int drawn = 0; drawn <= 60; drawn++) {
            SubBorrow x = Check.seeded(12345 + drawn);
            x.skip(drawn);
            x.seed(-99);
            Check.due("seed(-99) after " + drawn + " draws, status()", x.status(), 0);
            Check.sameFuture("seed(-99) after " + drawn + " draws", x, Check.seeded(-99));
        }
        SubBorrow twice = Check.seeded(4);
        twice.seed(4);
        Check.sameFuture("seed(4) twice", twice, Check.seeded(4));
    }
}
