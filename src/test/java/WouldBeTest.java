import java.util.ArrayList;
import java.util.List;

/** Promises 23 to 29. */
public final class WouldBeTest {
    private static final Checks CHECK = new Checks("WouldBeTest");

    public static void main(String[] args) {
        ifCoded();
        ifCodedRefuses();
        ifBlock();
        ifBlockRefuses();
        bestStep();
        bestStepAgainstAll();
        bestStepRefuses();
        ifSpoiled();
        ifSpoiledAgain();
        ifSpoiledRefuses();
        meanSquare();
        loudness();
        digestByHand();
        digestOfParts();
        digestOfEnd();
        CHECK.end();
    }

    // ---- promise 23

    private static void coded(int guess, int number, int value, int code, int next, int nextNumber) {
        SteppedSamples x = new SteppedSamples();
        String what = "ifCoded(" + guess + ", " + number + ", " + value + ")";
        CHECK.due(what + " code", x.ifCoded(guess, number, value, 0), code);
        CHECK.due(what + " guess", x.ifCoded(guess, number, value, 1), next + 10000);
        CHECK.due(what + " number", x.ifCoded(guess, number, value, 2), nextNumber);
    }

    private static void ifCoded() {
        CHECK.of(23);
        CHECK.says("Tells the code for a sample.");
        // The step 8 is 20: its half 10, its quarter 5, its eighth 2. The step 0 is 7: 3, 1 and 0.
        coded(0, 8, 0, 0, 2, 7);
        coded(0, 8, 15, 3, 17, 7);
        coded(0, 8, 35, 7, 37, 16);
        coded(0, 8, -1, 8, -2, 7);
        coded(0, 8, -35, 15, -37, 16);
        coded(5, 0, 9, 3, 9, 0);
        coded(5, 0, -2, 12, -2, 2);
        for (int what = 0; what < 3; what++) {
            int which = what;
            CHECK.changesNothing("ifCoded(1, 2, 3, " + what + ")", x -> x.ifCoded(1, 2, 3, which));
        }
        CHECK.says("`guess`: -2048 to 2047");
        coded(-2048, 48, 2047, 7, 135, 48);
        coded(2047, 48, 2047, 0, 2047, 47);
        CHECK.says("`number`: 0 to 48: the number of the step");
        coded(0, 0, 7, 4, 7, 2);
        coded(0, 48, 1165, 4, 1310, 48);
        CHECK.says("`value`: -2048 to 2047: the sample");
        coded(0, 47, 2047, 7, 1984, 48);
        coded(-2000, 48, -2048, 8, -2048, 47);
        CHECK.says("`what`: 0: the code;");
        SteppedSamples x = new SteppedSamples();
        CHECK.due("the code", x.ifCoded(0, 8, 25, 0), 5);
        CHECK.says("1: the next guess, plus 10000;");
        CHECK.due("the next guess", x.ifCoded(0, 8, 25, 1), 10027);
        CHECK.due("the next guess at the upper end", x.ifCoded(2040, 48, 2047, 1), 12047);
        CHECK.due("the next guess at the lower end", x.ifCoded(-2040, 48, -2048, 1), 7952);
        CHECK.says("2: the next number of the step");
        CHECK.due("the next number", x.ifCoded(0, 8, 25, 2), 12);
        CHECK.due("the next number at 0", x.ifCoded(0, 0, 0, 2), 0);
        CHECK.due("the next number at 48", x.ifCoded(0, 48, 2047, 2), 48);
        CHECK.says("Returns the number.");
        CHECK.due("ifCoded(0, 1, 0, 1)", x.ifCoded(0, 1, 0, 1), 10001);
    }

    private static void ifCodedRefuses() {
        CHECK.says("Throws `IllegalArgumentException` if an argument is out of range");
        CHECK.range("ifCoded(.., 0, 0, 0)", Checks.ARGUMENT, -2048, 2047, (x, guess) -> x.ifCoded(guess, 0, 0, 0));
        CHECK.range("ifCoded(0, .., 0, 0)", Checks.ARGUMENT, 0, 48, (x, number) -> x.ifCoded(0, number, 0, 0));
        CHECK.range("ifCoded(0, 0, .., 0)", Checks.ARGUMENT, -2048, 2047, (x, value) -> x.ifCoded(0, 0, value, 0));
        CHECK.range("ifCoded(0, 0, 0, ..)", Checks.ARGUMENT, 0, 2, (x, what) -> x.ifCoded(0, 0, 0, what));
    }

    // ---- promise 24

    private static void ifBlock() {
        CHECK.of(24);
        CHECK.says("Tells the error of some samples as a block.");
        SteppedSamples x = Made.small();
        CHECK.due("ifBlock(0, 2, 0)", x.ifBlock(0, 2, 0), 89 * 89);
        CHECK.due("ifBlock(2, 2, 8)", x.ifBlock(2, 2, 8), 2 * 2);
        x.set(0, 2);
        CHECK.due("ifBlock(2, 2, 8), not coded", x.ifBlock(2, 2, 8), 2 * 2);
        CHECK.changesNothing("ifBlock(0, 9, 7)", y -> y.ifBlock(0, 9, 7));
        CHECK.says("`first`: the first sample");
        for (int many : new int[] {1, 11, 64}) {
            CHECK.rangeOn("ifBlock(.., 1, 0) of " + many, Checks.INDEX, 0, many - 1, (y, first) -> y.ifBlock(first, 1, 0),
                () -> Made.silent(many, 8));
        }
        CHECK.due("ifBlock(1, 2, 0)", x.ifBlock(1, 2, 0), 39 * 39);
        CHECK.says("`many`: how many samples, 1 or more");
        CHECK.due("ifBlock(3, 1, 48)", x.ifBlock(3, 1, 48), 0);
        // 11 for 100, to the step 8 (20); 11 + 2 + 20 + 10 + 5 for 50, to the step 16 (50); 48 + 6 + 12 for 60.
        CHECK.due("ifBlock(0, 3, 0)", x.ifBlock(0, 3, 0), 7921 + 2 * 2);
        CHECK.due("ifBlock(0, 4, 0)", x.ifBlock(0, 4, 0), 7921 + 2 * 2 + 6 * 6);
        CHECK.due("ifBlock(0, 64, 0), more than a block may have", Made.silent(64, 2).ifBlock(0, 64, 0), 0);
        CHECK.says("`number`: 0 to 48: the step in the header");
        // 100 from 50: the step 0 comes to 61, the step 16 (50) to 56 more, clipped nowhere, the step 48 to 145 more.
        SteppedSamples y = Made.waveOf(50, 100);
        CHECK.due("ifBlock(0, 2, 0)", y.ifBlock(0, 2, 0), 39 * 39);
        CHECK.due("ifBlock(0, 2, 16)", y.ifBlock(0, 2, 16), 6 * 6);
        CHECK.due("ifBlock(0, 2, 48)", y.ifBlock(0, 2, 48), 95 * 95);
        CHECK.says("Returns the error, if these samples were coded as a block with this header.");
        SteppedSamples led = Made.codedBy(2, 0, 100, 50, 60, 900, -900, 3);
        for (int block = 0; block < 4; block++) {
            int many = led.blockOf(block, 0);
            int number = led.blockOf(block, 2);
            CHECK.due("error of block " + block, led.ifBlock(2 * block, many, number), led.blockOf(block, 4));
        }
        SteppedSamples loud = Made.waveOf(2047, -2048, 2047, -2048);
        CHECK.due("a loud one", loud.ifBlock(0, 2, 0), (2047 - 11 + 2048) * (2047 - 11 + 2048));
    }

    private static void ifBlockRefuses() {
        CHECK.says("Throws `IndexOutOfBoundsException` if there are not all these samples, or many is below 1");
        int[][] wrongOnes = {{0, 0}, {0, -1}, {-1, 1}, {-1, 2}, {11, 1}, {0, 12}, {10, 2}, {1, 11}, {11, 0}, {64, 1},
            {1, Integer.MAX_VALUE}, {11, Integer.MAX_VALUE}, {Integer.MAX_VALUE, 1}, {Integer.MAX_VALUE, 2},
            {Integer.MAX_VALUE, Integer.MAX_VALUE}, {Integer.MIN_VALUE, Integer.MIN_VALUE}, {0, Integer.MIN_VALUE},
            {Integer.MIN_VALUE, Integer.MAX_VALUE}, {1, Integer.MIN_VALUE}, {Integer.MIN_VALUE, 1}, {0, 65536 + 1}};
        Checks.Maker[] eleven = {Made::rich, Made::full, Made::stale};
        for (int[] one : wrongOnes) {
            String what = "ifBlock(" + one[0] + ", " + one[1] + ", ";
            CHECK.refusedOn(what + "0)", Checks.INDEX, x -> x.ifBlock(one[0], one[1], 0), eleven);
            CHECK.refusedOn(what + "49)", Checks.INDEX, x -> x.ifBlock(one[0], one[1], 49), eleven);
            CHECK.refusedOn(what + "-1)", Checks.INDEX, x -> x.ifBlock(one[0], one[1], -1), eleven);
        }
        CHECK.rangeOn("ifBlock(0, .., 0)", Checks.INDEX, 1, 11, (x, many) -> x.ifBlock(0, many, 0), eleven);
        CHECK.rangeOn("ifBlock(7, .., 0)", Checks.INDEX, 1, 4, (x, many) -> x.ifBlock(7, many, 0), eleven);
        CHECK.rangeOn("ifBlock(.., 4, 0)", Checks.INDEX, 0, 7, (x, first) -> x.ifBlock(first, 4, 0), eleven);
        CHECK.rangeOn("ifBlock(.., 11, 0)", Checks.INDEX, 0, 0, (x, first) -> x.ifBlock(first, 11, 0), eleven);
        CHECK.rangeOn("ifBlock(0, .., 0) of 64", Checks.INDEX, 1, 64, (x, many) -> x.ifBlock(0, many, 0),
            () -> Made.silent(64, 16));
        CHECK.says("Throws `IllegalArgumentException` if number is out of range");
        CHECK.range("ifBlock(0, 11, ..)", Checks.ARGUMENT, 0, 48, (x, number) -> x.ifBlock(0, 11, number));
        CHECK.range("ifBlock(10, 1, ..)", Checks.ARGUMENT, 0, 48, (x, number) -> x.ifBlock(10, 1, number));
    }

    // ---- promise 25

    private static void bestStep() {
        CHECK.of(25);
        CHECK.says("Finds the best step for the header of some samples as a block.");
        CHECK.due("bestStep of 50, 70", Made.waveOf(50, 70).bestStep(0, 2), 7);
        CHECK.due("bestStep of a far one", Made.waveOf(0, 2047).bestStep(0, 2), 48);
        CHECK.due("bestStep of the smallest", Made.waveOf(0, 0).bestStep(0, 2), 0);
        CHECK.changesNothing("bestStep(0, 11)", x -> x.bestStep(0, 11));
        CHECK.says("`first`: the first sample");
        SteppedSamples x = Made.waveOf(50, 70, 0, 2047);
        CHECK.due("bestStep(0, 2)", x.bestStep(0, 2), 7);
        CHECK.due("bestStep(2, 2)", x.bestStep(2, 2), 48);
        CHECK.says("`many`: how many samples, 1 or more");
        CHECK.due("bestStep(1, 1)", x.bestStep(1, 1), 0);
        CHECK.due("bestStep(3, 1)", x.bestStep(3, 1), 0);
        CHECK.due("bestStep(0, 64)", Made.silent(64, 2).bestStep(0, 64), 0);
    }

    private static void bestStepAgainstAll() {
        CHECK.says("Returns the number with the least ifBlock(), of several the least.");
        // The steps 0 and 2 make just 10 of the 10; the step 1 makes 11.
        CHECK.due("bestStep of several", Made.waveOf(50, 60).bestStep(0, 2), 0);
        // The steps 1 and 2 make just 5 of the 5; the step 0 makes 4.
        CHECK.due("bestStep of several but the first", Made.waveOf(50, 55).bestStep(0, 2), 1);
        for (int first = 0; first < 32; first += 5) {
            for (int many = 1; first + many <= 32; many += 3) {
                SteppedSamples x = new SteppedSamples();
                x.add(2, 900, 13);
                x.add(0, 150, 5);
                int best = x.bestStep(first, many);
                int least = x.ifBlock(first, many, best);
                for (int number = 0; number <= 48; number++) {
                    int error = x.ifBlock(first, many, number);
                    boolean worse = number < best ? error > least : error >= least;
                    CHECK.holds("bestStep(" + first + ", " + many + ") against " + number, worse);
                }
            }
        }
    }

    private static void bestStepRefuses() {
        CHECK.says("Throws `IndexOutOfBoundsException` if there are not all these samples, or many is below 1");
        int[][] wrongOnes = {{0, 0}, {0, -1}, {-1, 1}, {-1, 2}, {11, 1}, {0, 12}, {10, 2}, {1, 11}, {11, 0},
            {1, Integer.MAX_VALUE}, {Integer.MAX_VALUE, 1}, {Integer.MAX_VALUE, Integer.MAX_VALUE},
            {Integer.MIN_VALUE, Integer.MIN_VALUE}, {Integer.MIN_VALUE, 1}, {0, Integer.MIN_VALUE}};
        Checks.Maker[] eleven = {Made::rich, Made::full, Made::stale};
        for (int[] one : wrongOnes) {
            CHECK.refusedOn("bestStep(" + one[0] + ", " + one[1] + ")", Checks.INDEX, x -> x.bestStep(one[0], one[1]),
                eleven);
        }
        CHECK.rangeOn("bestStep(0, ..)", Checks.INDEX, 1, 11, (x, many) -> x.bestStep(0, many), eleven);
        CHECK.rangeOn("bestStep(7, ..)", Checks.INDEX, 1, 4, (x, many) -> x.bestStep(7, many), eleven);
        CHECK.rangeOn("bestStep(.., 4)", Checks.INDEX, 0, 7, (x, first) -> x.bestStep(first, 4), eleven);
        CHECK.rangeOn("bestStep(.., 1)", Checks.INDEX, 0, 31, (x, first) -> x.bestStep(first, 1), Made::fresh);
    }

    // ---- promise 26

    private static void ifSpoiled() {
        CHECK.of(26);
        CHECK.says("Tells how far a spoiled bit would spread.");
        CHECK.due("ifSpoiled(1, 3)", Made.small().ifSpoiled(1, 3), 1);
        CHECK.due("ifSpoiled(1, 0) of nothing", Made.silent(16, 8).ifSpoiled(1, 0), 7);
        CHECK.due("the sign of nothing", Made.silent(16, 8).ifSpoiled(1, 3), 0);
        for (int bit = 0; bit < 4; bit++) {
            int which = bit;
            CHECK.changesNothingIfCoded("ifSpoiled(1, " + bit + ")", x -> x.ifSpoiled(1, which));
            CHECK.changesNothingIfCoded("ifSpoiled(10, " + bit + ")", x -> x.ifSpoiled(10, which));
        }
        CHECK.says("`sample`: the sample to which the code belongs");
        for (int sample = 9; sample < 16; sample++) {
            CHECK.due("ifSpoiled(" + sample + ", 0)", Made.silent(16, 8).ifSpoiled(sample, 0), 16 - sample);
        }
        CHECK.says("`bit`: 0 to 3");
        SteppedSamples silent = Made.silent(2, 2);
        int[] spread = {1, 1, 1, 0};
        for (int bit = 0; bit < 4; bit++) {
            CHECK.due("ifSpoiled(1, " + bit + ")", silent.ifSpoiled(1, bit), spread[bit]);
        }
        CHECK.says("Returns how many samples made by the decoder would become others by spoil().");
        int[][] lossy = {{0, 3}, {1, 1}, {2, 2}};
        for (int[] one : lossy) {
            SteppedSamples x = Made.small();
            x.set(2, one[0]);
            x.lose(1);
            CHECK.due("ifSpoiled(1, 3), filled by " + one[0], x.ifSpoiled(1, 3), one[1]);
            CHECK.due("ifSpoiled(3, 3) in a lost block", x.ifSpoiled(3, 3), 0);
        }
        for (int sample : new int[] {1, 2, 3, 5, 6, 7, 9, 10}) {
            for (int bit = 0; bit < 4; bit++) {
                CHECK.due("ifSpoiled(" + sample + ", " + bit + ")", Made.rich().ifSpoiled(sample, bit),
                    othersBehindSpoil(sample, bit));
            }
        }
    }

    /** What the decoder makes of one question is not left over for the next one. */
    private static void ifSpoiledAgain() {
        SteppedSamples x = Made.small();
        CHECK.due("ifSpoiled(1, 3)", x.ifSpoiled(1, 3), 1);
        x.lose(1);
        CHECK.due("ifSpoiled(1, 3) behind lose(1)", x.ifSpoiled(1, 3), 3);
        CHECK.due("ifSpoiled(3, 3)", x.ifSpoiled(3, 3), 0);
        x.set(2, 2);
        CHECK.due("ifSpoiled(1, 3) behind set(2, 2)", x.ifSpoiled(1, 3), 2);
        x.undo();
        CHECK.due("ifSpoiled(1, 3) behind undo()", x.ifSpoiled(1, 3), 3);
        Made.type(x, "0,0:0");
        x.load(0);
        CHECK.due("the sign of nothing behind load()", x.ifSpoiled(1, 3), 0);
    }

    private static int othersBehindSpoil(int sample, int bit) {
        SteppedSamples calm = Made.rich();
        SteppedSamples spoiled = Made.rich();
        spoiled.spoil(sample, bit);
        int others = 0;
        for (int k = 0; k < 11; k++) {
            others += calm.sampleOf(k, 1) != spoiled.sampleOf(k, 1) ? 1 : 0;
        }
        return others;
    }

    private static void ifSpoiledRefuses() {
        CHECK.says("Throws `IndexOutOfBoundsException` as for spoil()");
        for (int sample : new int[] {-1, 11, 12, 64, 1 + 65536, Integer.MIN_VALUE, Integer.MAX_VALUE, 0, 4, 8}) {
            for (int bit : new int[] {0, 3, -1, 4}) {
                CHECK.refusedIfCoded("ifSpoiled(" + sample + ", " + bit + ")", Checks.INDEX, x -> x.ifSpoiled(sample, bit));
            }
        }
        for (int sample : new int[] {-1, 0, 1, 10, 11, 31, 32}) {
            for (int bit : new int[] {0, 4}) {
                CHECK.refusedUnlessCoded("ifSpoiled(" + sample + ", " + bit + "), not coded", Checks.INDEX,
                    x -> x.ifSpoiled(sample, bit));
            }
        }
        CHECK.rangeOn("ifSpoiled() of the last block", Checks.INDEX, 9, 10, (x, sample) -> x.ifSpoiled(sample, 0),
            Made::rich);
        CHECK.rangeOn("ifSpoiled() of a full wave", Checks.INDEX, 49, 63, (x, sample) -> x.ifSpoiled(sample, 0),
            () -> Made.silent(64, 16));
        CHECK.says("Throws `IllegalArgumentException` if bit is out of range");
        CHECK.rangeIfCoded("ifSpoiled(1, ..)", Checks.ARGUMENT, 0, 3, (x, bit) -> x.ifSpoiled(1, bit));
        CHECK.refusedIfCoded("ifSpoiled(1, 32)", Checks.ARGUMENT, x -> x.ifSpoiled(1, 32));
    }

    // ---- promise 27

    private static SteppedSamples smallLost() {
        SteppedSamples x = Made.small();
        x.lose(1);
        return x;
    }

    private static void meanSquare() {
        CHECK.of(27);
        CHECK.says("Returns the mean of the squares of the differences.");
        CHECK.dueDouble("meanSquare()", Made.small().meanSquare(), 1981.25);
        CHECK.dueDouble("meanSquare() of just the same", Made.silent(64, 8).meanSquare(), 0.0);
        CHECK.changesNothing("meanSquare()", x -> x.meanSquare());
        CHECK.says("Returns the error of all blocks as a double, divided by how many samples there are;");
        CHECK.dueDouble("meanSquare(), lost", smallLost().meanSquare(), (7921 + 39 * 39 + 49 * 49) / 4.0);
        CHECK.dueDouble("meanSquare() of three", Made.codedBy(2, 0, 100, 0).meanSquare(), 7921 / 3.0);
        CHECK.dueDouble("meanSquare(), the greatest", farthest().meanSquare(), 4095.0 * 4095.0);
        CHECK.dueDouble("meanSquare(), one of many", oneOff().meanSquare(), 1 / 63.0);
        CHECK.says("0.0 if the wave is not coded.");
        SteppedSamples x = Made.small();
        x.set(1, 0);
        CHECK.dueDouble("meanSquare(), not coded any more", x.meanSquare(), 0.0);
        CHECK.dueDouble("meanSquare(), never coded", Made.waveOf(5, 900).meanSquare(), 0.0);
    }

    /** 63 samples of 0, of which the decoder makes one 1. */
    private static SteppedSamples oneOff() {
        SteppedSamples x = Made.silent(63, 2);
        Made.type(x, "1,0:");
        x.load(31);
        return x;
    }

    /** 64 times 2047, of which the decoder makes -2048: the greatest error there is. */
    private static SteppedSamples farthest() {
        SteppedSamples x = new SteppedSamples();
        x.wave(64);
        x.add(0, 2047, 1);
        x.set(0, 16);
        x.code();
        for (int block = 0; block < 4; block++) {
            Made.type(x, "-2048,0:888888888888888");
            x.load(block);
        }
        return x;
    }

    // ---- promise 28

    /** So loud that a float does not hold all digits of the sum of the squares. */
    private static SteppedSamples loud(int period) {
        SteppedSamples x = new SteppedSamples();
        x.wave(64);
        x.add(0, 2047, period);
        x.add(1, 33, 7);
        x.code();
        return x;
    }

    private static long squaresOf(SteppedSamples x) {
        long squares = 0;
        for (int k = 0; k < x.count(0); k++) {
            long value = x.sampleOf(k, 0) - 10000;
            squares += value * value;
        }
        return squares;
    }

    private static void loudness() {
        CHECK.of(28);
        CHECK.says("Returns how loud the wave is against the noise.");
        CHECK.dueDouble("loudness()", Made.small().loudness(), 16100f / 7925f);
        CHECK.changesNothing("loudness()", x -> x.loudness());
        CHECK.says("Returns the sum of the squares of all samples as a float, divided by the error of all blocks as a "
            + "float;");
        CHECK.dueDouble("loudness(), lost", smallLost().loudness(), 16100f / (7921 + 39 * 39 + 49 * 49));
        CHECK.dueDouble("loudness(), the greatest error", farthest().loudness(),
            (float) (64 * 2047 * 2047) / (float) (64 * 4095 * 4095));
        int others = 0;
        for (int period = 2; period <= 33; period++) {
            int which = period;
            long squares = squaresOf(loud(which));
            int error = loud(which).count(4);
            float want = (float) squares / (float) error;
            others += want == (float) ((double) squares / (double) error) ? 0 : 1;
            CHECK.dueDouble("loudness(), loud by " + period, loud(which).loudness(), want);
        }
        CHECK.holds("some of them are others than without floats", others > 0);
        CHECK.dueDouble("loudness(), of 0 with noise", oneOff().loudness(), 0.0f);
        CHECK.says("0.0f if the wave is not coded;");
        SteppedSamples x = Made.small();
        x.set(1, 0);
        CHECK.dueDouble("loudness(), not coded any more", x.loudness(), 0.0f);
        CHECK.dueDouble("loudness(), never coded", Made.waveOf(5, 900).loudness(), 0.0f);
        CHECK.dueDouble("loudness(), silent and never coded", new SteppedSamples().loudness(), 0.0f);
        CHECK.says("-1.0f if the error is 0.");
        CHECK.dueDouble("loudness(), silent", Made.silent(64, 8).loudness(), -1.0f);
        CHECK.dueDouble("loudness(), no error", Made.codedBy(2, 40, 40).loudness(), -1.0f);
        CHECK.dueDouble("loudness(), the least error", Made.codedBy(2, 40, 40 + 12).loudness(), (1600f + 2704f) / 1f);
    }

    // ---- promise 29

    private static long hashOf(long... list) {
        long hash = 3329;
        for (long value : list) {
            hash = 31 * hash + value;
        }
        return hash;
    }

    private static void digestByHand() {
        CHECK.of(29);
        CHECK.says("Computes a hash of the whole state.");
        CHECK.due("digest() twice", Made.full().digest(), Made.full().digest());
        CHECK.changesNothing("digest()", x -> x.digest());
        CHECK.says("The hash starts at 3329.");
        SteppedSamples one = new SteppedSamples();
        one.wave(1);
        CHECK.due("digest() of one sample", one.digest(), hashOf(1, 0, 0, 0, 0, 0, 0, 0, 0, 0, 0, 1, 8, 0, 0, 10000, -1, -1,
            -1, -1, -1, 0, 0, 0, 0, 0, 0));
        CHECK.says("For each value v of the following list, in order, the hash becomes 31 * hash + v, in long arithmetic "
            + "with overflow.");
        SteppedSamples small = Made.small();
        Made.type(small, "!~");
        small.keep(1);
        CHECK.due("digest() of the small one", small.digest(), hashOf(4, 1, 2, 0, 7925, 7925, 89, 2, 44, 1, 0, 6, 2, 0, 0,
            10000, 10000, 10000, -1, 0, 10000, 10100, 10011, 10011, 7, 8, 10089, 10050, 10050, 10050, -1, 8, 10000,
            10060, 10062, 10062, 2, 7, 9998, 2, 10000, 0, 0, 7921, 8, 2, 10050, 8, 0, 4, 7, Made.small().bestStep(0, 4),
            1, 1, Double.doubleToLongBits(1981.25), Float.floatToIntBits(16100f / 7925f), 0, 1, 2, 33, 126));
    }

    /** The list that the document tells, each part of it asked of an object of its own. */
    private static long hashOf(Checks.Maker maker, int slot0, int slot1, String buffer) {
        List<Long> list = new ArrayList<>();
        SteppedSamples x = maker.make();
        int samples = x.count(0);
        int blocks = x.count(2);
        for (int what = 0; what <= 11; what++) {
            list.add((long) x.count(what));
        }
        for (int setting = 0; setting <= 2; setting++) {
            list.add((long) x.setting(setting));
        }
        addSamples(list, maker, samples);
        addBlocks(list, maker, blocks);
        list.add((long) x.bestStep(0, samples));
        for (int sample = 0; sample < samples; sample++) {
            if (x.sampleOf(sample, 3) != -1) {
                list.add((long) x.ifSpoiled(sample, 3));
            }
        }
        list.add(Double.doubleToLongBits(x.meanSquare()));
        list.add((long) Float.floatToIntBits(x.loudness()));
        list.add((long) slot0);
        list.add((long) slot1);
        list.add((long) buffer.length());
        for (char sign : buffer.toCharArray()) {
            list.add((long) sign);
        }
        return hashOf(list.stream().mapToLong(Long::longValue).toArray());
    }

    private static void addSamples(List<Long> list, Checks.Maker maker, int samples) {
        SteppedSamples[] twins = new SteppedSamples[6];
        for (int what = 0; what <= 5; what++) {
            twins[what] = maker.make();
        }
        for (int sample = 0; sample < samples; sample++) {
            for (int what = 0; what <= 5; what++) {
                list.add((long) twins[what].sampleOf(sample, what));
            }
        }
    }

    private static void addBlocks(List<Long> list, Checks.Maker maker, int blocks) {
        SteppedSamples twin = maker.make();
        for (int block = 0; block < blocks; block++) {
            for (int what = 0; what <= 5; what++) {
                list.add((long) twin.blockOf(block, what));
            }
        }
    }

    private static void digestIs(String what, Checks.Maker maker, int slot0, int slot1, String buffer) {
        CHECK.due("digest(), " + what, maker.make().digest(), hashOf(maker, slot0, slot1, buffer));
    }

    private static SteppedSamples any(int kind, int many) {
        SteppedSamples x = new SteppedSamples();
        x.wave(many);
        x.add(kind, 1999, 1 + many / 2);
        x.add(0, 97, 3);
        x.set(0, 2 + many % 15);
        x.code();
        return x;
    }

    private static void digestOfParts() {
        CHECK.says("The values are: count(0) to count(11);");
        digestIs("new", Made::fresh, 0, 0, "");
        digestIs("stale", Made::stale, 1, 0, "0,0:1234567");
        digestIs("small", Made::small, 0, 0, "");
        CHECK.says("the settings 0 to 2;");
        SteppedSamples[] set = {new SteppedSamples(), new SteppedSamples(), new SteppedSamples()};
        set[0].set(0, 9);
        set[1].set(1, 1);
        set[2].set(2, 1);
        SteppedSamples calm = new SteppedSamples();
        calm.set(2, 0);
        long weight = set[2].digest() - calm.digest();
        CHECK.due("setting 1 weighs 31 times as much as setting 2", set[1].digest() - calm.digest(), 31 * weight);
        CHECK.due("setting 0 weighs 31 times as much as that", set[0].digest() - calm.digest(), 31 * 31 * weight);
        CHECK.says("for each sample its properties 0 to 5;");
        for (int kind = 0; kind < 3; kind++) {
            int which = kind;
            for (int many = 1; many <= 64; many += 7) {
                int samples = many;
                digestIs("kind " + kind + " of " + many, () -> any(which, samples), 0, 0, "");
            }
        }
        CHECK.says("for each block its properties 0 to 5;");
        digestIs("32 blocks", () -> Made.silent(64, 2), 0, 0, "");
        digestIs("4 blocks", () -> Made.silent(64, 16), 0, 0, "");
        digestIs("a lost block", Made::rich, 0, 1, "12,3:a");
        CHECK.says("bestStep of all samples;");
        digestIs("50, 70", () -> Made.waveOf(50, 70), 0, 0, "");
        digestIs("a far one", () -> Made.waveOf(0, 2047), 0, 0, "");
        CHECK.says("for each sample that has a code ifSpoiled with 3;");
        digestIs("a spoiled code", Made::full, 1, 1, "12,3:a");
        digestIs("loud", () -> loud(9), 0, 0, "");
    }

    private static void digestOfEnd() {
        CHECK.says("the bits of meanSquare (as Double.doubleToLongBits) and of loudness (as Float.floatToIntBits);");
        digestIs("no error, loudness -1.0f", () -> Made.silent(9, 4), 0, 0, "");
        digestIs("a small mean, loudness 0.0f", WouldBeTest::oneOff, 0, 0, "");
        digestIs("the greatest mean", WouldBeTest::farthest, 0, 0, "");
        digestIs("lost", WouldBeTest::smallLost, 0, 0, "");
        for (int value = 1; value <= 2047; value += 31) {
            int high = value;
            digestIs("0, " + value, () -> Made.codedBy(2, 0, high, high / 2), 0, 0, "");
        }
        CHECK.says("for each slot 1 if it has a snapshot, otherwise 0;");
        for (int slots = 0; slots < 4; slots++) {
            int which = slots;
            digestIs("slots " + slots, () -> kept(which), which & 1, which >> 1, "");
        }
        CHECK.says("the length of the buffer and each of its character codes.");
        for (String text : new String[] {"", "!", "~", "12,~", "2,3", "3,2", "f".repeat(39), "-".repeat(40)}) {
            digestIs("the buffer " + text, () -> {
                SteppedSamples x = Made.small();
                Made.type(x, text);
                return x;
            }, 0, 0, text);
        }
        SteppedSamples cleared = Made.small();
        Made.type(cleared, "123");
        cleared.clearBuffer();
        CHECK.due("a cleared buffer", cleared.digest(), Made.small().digest());
        CHECK.says("Returns the hash.");
        CHECK.due("digest() of the small one", Made.small().digest(), hashOf(Made::small, 0, 0, ""));
    }

    private static SteppedSamples kept(int slots) {
        SteppedSamples x = Made.small();
        for (int slot = 0; slot < 2; slot++) {
            if ((slots >> slot & 1) == 1) {
                x.keep(slot);
            }
        }
        return x;
    }
}
