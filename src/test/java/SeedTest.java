/** Promise 2: seed. */
public final class SeedTest {
    private static final int DEFAULT = 19780503;

    /** A seed, then its draws number 1, 2, 10, 11, 24, 25, 48, 49, 1000 and 10000, as C++'s std::ranlux24_base gives them. */
    private static final int[][] KNOWN = {
        {19780503, 15039276, 16323925, 8342712, 3458016, 15618433, 5184878, 14105831, 1137955, 10303422, 7937952},
        {1, 8871692, 3740959, 907732, 16623825, 3912684, 10568946, 635870, 11953015, 8347823, 14007167},
        {2, 966168, 7481918, 1815466, 16470349, 7825283, 4360677, 1271830, 7128727, 8209292, 16172253},
        {-1, 6147804, 11468564, 2411252, 7622768, 6920865, 7758391, 6806299, 6790811, 4156664, 9287886},
        {-2, 14053243, 7727604, 1503520, 7776074, 3008180, 13966829, 6170679, 11614847, 12158207, 5515616},
        {-170, 8871692, 3740959, 907732, 16623825, 3912684, 10568946, 635870, 11953015, 8347823, 14007167},
        {-169, 8871692, 3740959, 907732, 16623825, 3912684, 10568946, 635870, 11953015, 8347823, 14007167},
        {-171, 7905524, 13036256, 15869483, 153475, 12864699, 6208352, 16141177, 4824117, 14761604, 15561471},
        {2147483563, 8871692, 3740959, 907732, 16623825, 3912684, 10568946, 635870, 11953015, 8347823, 14007167},
        {2147483562, 7905524, 13036256, 15869483, 153475, 12864699, 6208352, 16141177, 4824117, 14761604, 15561471},
        {2147483564, 8871692, 3740959, 907732, 16623825, 3912684, 10568946, 635870, 11953015, 8347823, 14007167},
        {2147483647, 7026579, 12252453, 9140368, 3888036, 9892654, 15372150, 3085511, 14195817, 11161782, 7258694},
        {-2147483648, 15898356, 15993411, 10048100, 3734645, 13805340, 9163711, 3721126, 9371784, 8054718, 6393010},
        {40014, 3740959, 5241959, 15974908, 627291, 11217863, 479299, 11304098, 2409244, 9736291, 15299829},
        {16777216, 4318486, 12314610, 864963, 14447077, 1549703, 16062417, 8679729, 8986217, 15228879, 16714837},
        {123456789, 16484180, 3165854, 3889424, 16365761, 2704664, 14439248, 784811, 12702316, 11131298, 647680},
    };
    private static final int[] KNOWN_DRAWS = {1, 2, 10, 11, 24, 25, 48, 49, 1000, 10000};

    public static void main(String[] args) {
        Check.sentence("`SubBorrow` is a subtract-with-borrow generator on 24-bit words [...] (known as ranlux24_base).",
                SeedTest::knownDraws);
        Check.sentence("It accepts every `int`.", SeedTest::acceptsEveryInt);
        Check.sentence("If `s == 0`, then 19780503 is used in place of `s` and the answer is 1.", SeedTest::zero);
        Check.sentence("For every other `s`, negative values included, `s` itself is used and the answer is 0.",
                SeedTest::everyOther);
        Check.sentence("So `seed(0)` and `seed(19780503)` leave the same state, but the first answers 1 and the second"
                + " answers 0.", SeedTest::zeroAgainstTheDefault);
        Check.sentence("Let `e`, a `long`, be `s` (after the replacement above) taken as an unsigned 32-bit value, modulo"
                + " 2147483563.", SeedTest::startingValueIsTakenModulo);
        Check.sentence("Taken as unsigned, a negative `s` stands for `s + 4294967296`; for example, -1 stands for"
                + " 4294967295.", SeedTest::negativeStandsForUnsigned);
        Check.sentence("If this `e` is 0, then `e = 1`.", SeedTest::startingValueZeroBecomesOne);
        Check.sentence("This happens exactly for `s == 2147483563` and for `s == -170` (unsigned 4294967126); the answer"
                + " for these two is still 0.", SeedTest::exactlyTwoSeedsStartFromZero);
        Check.sentence("`e` becomes `e * 40014` modulo 2147483563. The product is taken as a `long`, and it does not"
                + " overflow.", SeedTest::productDoesNotOverflow);
        Check.sentence("Word k becomes the low 24 bits of this new `e`, a value from 0 to 16777215.",
                SeedTest::wordsAreTheLowBits);
        Check.sentence("Only the word is cut to 24 bits; `e` itself goes on uncut to the next k.", SeedTest::goesOnUncut);
        Check.sentence("The first multiplication comes before word 0 is set, so word 0 comes from the starting value already"
                + " multiplied once.", SeedTest::multipliedBeforeWordZero);
        Check.sentence("After all the words are set, borrow is 1 if word 23 is 0,", SeedTest::lastWordZeroBorrows);
        Check.sentence("and otherwise 0. (the borrow)", SeedTest::otherwiseNoBorrow);
        Check.sentence("The cursor is 0.", SeedTest::cursorIsZero);
        Check.sentence("Nothing of the earlier state survives: the state after `seed(s)` depends on `s` alone, whatever was"
                + " called before.", SeedTest::nothingEarlierSurvives);
        Check.finish();
    }

    private static void knownDraws() {
        for (int[] row : KNOWN) {
            SubBorrow x = Check.seeded(row[0]);
            int column = 0;
            for (int i = 1; i <= 10000; i++) {
                int got = x.next();
                if (i == KNOWN_DRAWS[column]) {
                    column++;
                    Check.due("seed(" + row[0] + "), next() number " + i, got, row[column]);
                }
            }
        }
    }

    private static void acceptsEveryInt() {
        int s = 1;
        for (int i = 0; i < 2000; i++) {
            s = s * 1664525 + 1013904223;
            compareWithTheModel(s);
        }
        for (int bit = 0; bit < 32; bit++) {
            for (int off = -2; off <= 2; off++) {
                compareWithTheModel((1 << bit) + off);
                compareWithTheModel(-(1 << bit) + off);
            }
        }
    }

    private static void compareWithTheModel(int s) {
        SubBorrow x = new SubBorrow();
        Model model = new Model();
        Check.due("seed(" + s + ")", x.seed(s), model.seed(s));
        Check.sameFuture("seed(" + s + ")", x, model);
    }

    private static void zero() {
        SubBorrow x = new SubBorrow();
        Check.due("new: seed(0)", x.seed(0), 1);
        Check.due("seed(0) again", x.seed(0), 1);
        Check.draw(x, 17);
        Check.due("seed(0) after draws", x.seed(0), 1);
        x.seed(5);
        Check.due("seed(0) after seed(5)", x.seed(0), 1);
        wordsFrom("seed(0)", 0, DEFAULT);
    }

    private static void everyOther() {
        SubBorrow x = new SubBorrow();
        for (int[] row : KNOWN) {
            Check.due("seed(" + row[0] + ")", x.seed(row[0]), 0);
        }
        for (int s = 1; s <= 300; s++) {
            Check.due("seed(" + s + ")", x.seed(s), 0);
            Check.due("seed(" + -s + ")", x.seed(-s), 0);
            Check.due("seed(" + (Integer.MIN_VALUE + s) + ")", x.seed(Integer.MIN_VALUE + s), 0);
            wordsFrom("seed(" + s + ")", s, s);
        }
        Check.due("seed(2147483647)", x.seed(2147483647), 0);
        Check.due("seed(-2147483648)", x.seed(-2147483648), 0);
        for (int shift = 8; shift < 32; shift += 8) {
            // These look like 0 to a seed that is cut.
            Check.due("seed(" + (1 << shift) + ")", x.seed(1 << shift), 0);
            wordsFrom("seed(" + (1 << shift) + ")", 1 << shift, (1 << shift & 4294967295L) % SeedOf.MODULUS);
        }
    }

    private static void zeroAgainstTheDefault() {
        SubBorrow zero = Check.drawn(3, 40);
        SubBorrow standIn = Check.drawn(4, 51);
        Check.due("seed(0)", zero.seed(0), 1);
        Check.due("seed(19780503)", standIn.seed(DEFAULT), 0);
        Check.sameFuture("seed(0) against seed(19780503)", zero, standIn);
    }

    private static void startingValueIsTakenModulo() {
        sameStart(2147483562, 2147483562L);
        sameStart(2147483564, 1);
        sameStart(2147483565, 2);
        sameStart(2147483647, 84);
        for (int s = 1; s <= 1000; s++) {
            sameStart(SeedOf.aboveTheModulus(s), s);
        }
        // Twice the modulus fits below 4294967296 too.
        sameStart(-171, 2147483562L);
        sameStart(-169, 1);
        sameStart(-168, 2);
    }

    private static void negativeStandsForUnsigned() {
        sameStart(-1, 4294967295L % SeedOf.MODULUS);
        Check.sameFuture("seed(-1) against seed(169)", Check.seeded(-1), Check.seeded(169));
        Check.sameFuture("seed(-2) against seed(168)", Check.seeded(-2), Check.seeded(168));
        Check.sameFuture("seed(-2147483648) against seed(85)", Check.seeded(-2147483648), Check.seeded(85));
        Check.sameFuture("seed(-2147483647) against seed(86)", Check.seeded(-2147483647), Check.seeded(86));
        for (int s = -1; s >= -1000; s--) {
            if (s != -170) {
                sameStart(s, (s + 4294967296L) % SeedOf.MODULUS);
            }
        }
    }

    private static void sameStart(int s, long e) {
        Check.due("seed(" + s + ")", new SubBorrow().seed(s), 0);
        wordsFrom("seed(" + s + ")", s, e);
    }

    private static void startingValueZeroBecomesOne() {
        wordsFrom("seed(2147483563)", 2147483563, 1);
        wordsFrom("seed(-170)", -170, 1);
        Check.sameFuture("seed(2147483563) against seed(1)", Check.seeded(2147483563), Check.seeded(1));
        Check.sameFuture("seed(-170) against seed(1)", Check.seeded(-170), Check.seeded(1));
    }

    private static void exactlyTwoSeedsStartFromZero() {
        SubBorrow x = new SubBorrow();
        Check.due("seed(2147483563)", x.seed(2147483563), 0);
        Check.due("seed(-170)", x.seed(-170), 0);
        for (int off = 1; off <= 100; off++) {
            notFromOne(2147483563 - off);
            notFromOne(-170 - off);
            notFromOne(2147483564 + off);
            notFromOne(-169 + off);
        }
        // The seeds that a modulus of 2 to the 31st or the sign alone would take for 0.
        notFromOne(-2147483648);
        notFromOne(-2147483563);
        notFromOne(170);
    }

    private static void notFromOne(int s) {
        int first = new State(Check.seeded(s)).words[0];
        Check.holds("word 0 after seed(" + s + ") is not 40014", first != 40014);
    }

    private static void productDoesNotOverflow() {
        // The greatest starting value, then values whose product goes past 31, 32 and more bits.
        wordsFrom("seed(2147483562)", 2147483562, 2147483562L);
        State greatest = new State(Check.seeded(2147483562));
        Check.due("seed(2147483562): word 0", greatest.words[0], 2147483563 - 40014 & State.TOP);
        for (int s : new int[] {53668, 53669, 107337, 107338, 1 << 20, 1 << 30, 2147483561}) {
            wordsFrom("seed(" + s + ")", s, s);
        }
        for (int k = 0; k < 23; k++) {
            int s = SeedOf.valueAtWord(k, 2147483562L);
            State greatestAtWord = new State(Check.seeded(s));
            Check.due("seed(" + s + "): word " + (k + 1), greatestAtWord.words[k + 1], 2147483563 - 40014 & State.TOP);
        }
    }

    private static void wordsAreTheLowBits() {
        for (int k = 0; k < State.WORDS; k++) {
            wordFromValue(k, 1, 1);
            wordFromValue(k, 16777215, 16777215);
            wordFromValue(k, 16777216, 0);
            wordFromValue(k, 16777217, 1);
            wordFromValue(k, 8388608, 8388608);
            wordFromValue(k, 127L << 24, 0);
            wordFromValue(k, (127L << 24) - 1, 16777215);
            wordFromValue(k, 2147483562L, 16777130);
        }
    }

    private static void wordFromValue(int k, long e, int word) {
        int s = SeedOf.valueAtWord(k, e);
        Check.due("seed(" + s + "): word " + k, new State(Check.seeded(s)).words[k], word);
        // A word above 24 bits shows in the borrow and in the answers alone, not in the bits that State works out.
        compareWithTheModel(s);
    }

    private static void goesOnUncut() {
        State one = new State(Check.seeded(1));
        Check.due("seed(1): word 1", one.words[1], 1601120196 & State.TOP);
        Check.due("seed(1): word 2", one.words[2], 1601120196L * 40014 % SeedOf.MODULUS & State.TOP);
        for (int k = 0; k < 23; k++) {
            // Cut to 24 bits, this value would be 0, and every later word with it.
            int s = SeedOf.valueAtWord(k, 1L << 24);
            State uncut = new State(Check.seeded(s));
            Check.due("seed(" + s + "): word " + k, uncut.words[k], 0);
            Check.due("seed(" + s + "): word " + (k + 1), uncut.words[k + 1],
                    (1L << 24) * 40014 % SeedOf.MODULUS & State.TOP);
        }
    }

    private static void multipliedBeforeWordZero() {
        Check.due("seed(1): word 0", new State(Check.seeded(1)).words[0], 40014);
        Check.due("seed(2): word 0", new State(Check.seeded(2)).words[0], 80028);
        Check.due("seed(40014): word 0", new State(Check.seeded(40014)).words[0], 1601120196 & State.TOP);
        Check.due("seed(0): word 0", new State(Check.seeded(0)).words[0],
                (long) DEFAULT * 40014 % SeedOf.MODULUS & State.TOP);
    }

    /** All 254 seeds of this kind below twice the modulus: e ends as a multiple of 16777216. */
    private static void lastWordZeroBorrows() {
        for (long m = 1; m <= 127; m++) {
            int s = SeedOf.valueAtWord(23, m << 24);
            lastWordZero(s);
            lastWordZero(SeedOf.aboveTheModulus(s));
        }
        Check.due("seed(1604714404), status()", Check.seeded(1604714404).status(), 1);
        Check.due("seed(-542769329), status()", Check.seeded(-542769329).status(), 1);
    }

    private static void lastWordZero(int s) {
        SubBorrow x = Check.drawn(6, 7);
        Check.due("seed(" + s + ")", x.seed(s), 0);
        Check.due("seed(" + s + "), status()", x.status(), 1);
        Check.due("seed(" + s + "): word 23", new State(x).words[23], 0);
        compareWithTheModel(s);
    }

    private static void otherwiseNoBorrow() {
        for (long last : new long[] {1, 2, 255, 256, 65536, 8388608, 16777215, 16777217, 25165824, 2147483562L}) {
            int s = SeedOf.valueAtWord(23, last);
            Check.due("seed(" + s + "), status()", Check.seeded(s).status(), 0);
        }
        for (int k = 0; k < 23; k++) {
            // Another word is 0, but not the last.
            int s = SeedOf.valueAtWord(k, 1L << 24);
            Check.due("seed(" + s + ") with word " + k + " 0, status()", Check.seeded(s).status(), 0);
        }
        SubBorrow x = Check.seeded(1604714404);
        x.seed(1);
        Check.due("seed(1604714404), seed(1), status()", x.status(), 0);
    }

    private static void cursorIsZero() {
        for (int draws = 0; draws <= 48; draws++) {
            SubBorrow x = Check.drawn(8, draws);
            x.seed(1);
            Check.due(draws + " draws, seed(1), status()", x.status(), 0);
            x.next();
            Check.due(draws + " draws, seed(1), next(), status() / 2", x.status() / 2, 1);
            x.seed(0);
            Check.due("seed(0), status()", x.status(), 0);
        }
    }

    private static void nothingEarlierSurvives() {
        for (int draws = 0; draws <= 60; draws++) {
            for (int s : new int[] {-99, 0, 2147483563, -170, 1604714404}) {
                SubBorrow x = Check.drawn(12345 + draws, draws);
                x.skip(201);
                x.seed(s);
                Check.sameFuture("seed(" + s + ") after " + draws + " draws", x, Check.seeded(s));
            }
        }
        SubBorrow twice = Check.seeded(4);
        twice.seed(4);
        Check.sameFuture("seed(4) twice", twice, Check.seeded(4));
        SubBorrow after = Check.seeded(1604714404);
        after.seed(7);
        Check.sameFuture("seed(7) after a seed that borrows", after, Check.seeded(7));
    }

    /** The words after seed(s), from the starting value e by the two steps of the document. */
    private static void wordsFrom(String what, int s, long e) {
        State state = new State(Check.seeded(s));
        for (int k = 0; k < State.WORDS; k++) {
            e = e * 40014 % SeedOf.MODULUS;
            Check.due(what + ": word " + k, state.words[k], e & State.TOP);
        }
    }
}
