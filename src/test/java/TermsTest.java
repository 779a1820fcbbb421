/** "Terms": samples, steps, codes, waves, blocks and settings. */
public final class TermsTest {
    private static final Checks CHECK = new Checks("TermsTest");

    public static void main(String[] args) {
        terms();
        stepTable();
        changeByCode();
        nextNumber();
        codeForSample();
        waves();
        codedOrNot();
        blocks();
        starts();
        bestStarts();
        errors();
        filledWithLast();
        filledOtherwise();
        settings();
        CHECK.end();
    }

    private static void terms() {
        CHECK.of("Terms");
        CHECK.says("All numbers are integers, but for shares and means;");
        CHECK.dueDouble("meanSquare()", Made.small().meanSquare(), 1981.25);
        CHECK.dueDouble("loudness()", Made.small().loudness(), 16100f / 7925f);
        CHECK.says("divisions are rounded down, if nothing else is told.");
        // The step 9 is 23: a tenth of it 2, its half 11, its quarter 5, its eighth 2.
        CHECK.due("step(10)", new SteppedSamples().step(10), 23 + 2 + 1);
        follows(0, 9, 7, 23 + 11 + 5 + 2, 17);
        follows(0, 9, 15, -41, 17);
        CHECK.says("Samples are from -2048 to 2047;");
        CHECK.range("sample(0, ..)", Checks.ARGUMENT, -2048, 2047, (x, value) -> x.sample(0, value));
        CHECK.says("to clip a number is to take the nearest one of these.");
        SteppedSamples x = Made.waveOf(2046, 2047, -2047, -2048);
        x.add(0, 1, 4);
        CHECK.samples("clipped by add()", x, 0, 12047, 12047, 7952, 7952);
        follows(2047, 48, 7, 2047, 48);
        follows(-2048, 48, 15, -2048, 48);
    }

    private static void stepTable() {
        CHECK.of("Steps");
        CHECK.says("The steps are numbered from 0 to 48:");
        CHECK.range("step()", Checks.INDEX, 0, 48, SteppedSamples::step);
        SteppedSamples x = new SteppedSamples();
        CHECK.says("the step 0 is 7,");
        CHECK.due("step(0)", x.step(0), 7);
        CHECK.says("and each one is the one before, a tenth of that, and 1, together.");
        for (int number = 1; number <= 48; number++) {
            int before = x.step(number - 1);
            CHECK.due("step(" + number + ")", x.step(number), before + before / 10 + 1);
        }
        CHECK.due("the last step", x.step(48), 1165);
        CHECK.says("(So 8, 9, 10, 12, and so on.)");
        CHECK.due("step(1)", x.step(1), 8);
        CHECK.due("step(2)", x.step(2), 9);
        CHECK.due("step(3)", x.step(3), 10);
        CHECK.due("step(4)", x.step(4), 12);
    }

    /** By one code from a guess and a step, the decoder comes to the next guess and the next number. */
    private static void follows(int guess, int number, int code, int next, int nextNumber) {
        String text = guess + "," + number + ":" + Integer.toHexString(code);
        SteppedSamples x = Made.small();
        Made.type(x, text);
        x.load(0);
        CHECK.due("the guess behind " + text, x.sampleOf(1, 1) - 10000, next);
        CHECK.due("the number behind " + text, x.sampleOf(1, 4), nextNumber);
    }

    private static void codeFor(int guess, int number, int value, int code) {
        String call = "ifCoded(" + guess + ", " + number + ", " + value + ", 0)";
        CHECK.due(call, new SteppedSamples().ifCoded(guess, number, value, 0), code);
    }

    private static void changeByCode() {
        CHECK.says("A code is 0 to 15: 8 for the sign, and three bits 4, 2 and 1.");
        for (int size = 0; size <= 7; size++) {
            codeFor(0, 8, 5 * size, size);
            codeFor(0, 8, size == 0 ? -1 : -5 * size, 8 + size);
        }
        CHECK.says("With a step s and a guess g, the change by a code is s / 8, and s if it has the bit 4, s / 2 if it "
            + "has the bit 2, s / 4 if it has the bit 1, together (each division rounded down);");
        changes(0, 0, 1, 3, 4, 7, 8, 10, 11);
        changes(1, 1, 3, 5, 7, 9, 11, 13, 15);
        changes(9, 2, 7, 13, 18, 25, 30, 36, 41);
        changes(48, 145, 436, 727, 1018, 1310, 1601, 1892, 2183);
        CHECK.says("it is taken from the guess if it has the bit 8, otherwise added;");
        follows(100, 9, 6, 136, 15);
        follows(100, 9, 14, 64, 15);
        follows(100, 9, 0, 102, 8);
        follows(100, 9, 8, 98, 8);
        CHECK.says("what comes out is clipped, and is the next guess.");
        follows(2005, 9, 7, 2046, 17);
        follows(2006, 9, 7, 2047, 17);
        follows(2007, 9, 7, 2047, 17);
        follows(-2006, 9, 15, -2047, 17);
        follows(-2007, 9, 15, -2048, 17);
        follows(-2008, 9, 15, -2048, 17);
        // From 2047, not from what was above it: the step 6 (16) less its half and its eighth.
        SteppedSamples x = Made.codedBy(3, 0, 0, 0);
        Made.type(x, "2040,0:7a");
        x.load(0);
        CHECK.samples("a guess behind a clipped one", x, 1, 12040, 12047, 12047 - 2 - 10);
    }

    /** The changes by the codes 0 to 7, added and, with the sign, taken off. */
    private static void changes(int number, int... want) {
        for (int code = 0; code < want.length; code++) {
            int nextNumber = code < 4 ? Math.max(0, number - 1) : Math.min(48, number + 2 * (code - 3));
            follows(-1000, number, code, -1000 + want[code], nextNumber);
            follows(1000, number, 8 + code, 1000 - want[code], nextNumber);
        }
    }

    private static void nextNumber() {
        CHECK.says("Behind it the number of the step becomes 1 less if the bits 4, 2 and 1 are less than 4 together, "
            + "otherwise 2, 4, 6 or 8 more (for 4, 5, 6 and 7);");
        // The step 20 is 76: its half 38, its quarter 19, its eighth 9.
        int[] changes = {9, 28, 47, 66, 85, 104, 123, 142};
        int[] numbers = {19, 19, 19, 19, 22, 24, 26, 28};
        for (int code = 0; code < 8; code++) {
            follows(0, 20, code, changes[code], numbers[code]);
            follows(0, 20, 8 + code, -changes[code], numbers[code]);
        }
        CHECK.says("at least 0, at most 48.");
        follows(0, 0, 0, 0, 0);
        follows(0, 0, 11, -4, 0);
        follows(0, 1, 0, 1, 0);
        follows(0, 2, 0, 1, 1);
        follows(0, 0, 4, 7, 2);
        int[] last = {46, 44, 42, 40};
        for (int code = 4; code < 8; code++) {
            SteppedSamples x = new SteppedSamples();
            int number = last[code - 4];
            CHECK.due("the number behind " + number, ended(x, number, code), 48);
            CHECK.due("the number before it", ended(x, number - 1, code), 47);
            CHECK.due("the number at the end", ended(x, number + 1, code), 48);
            CHECK.due("the number from the last one", ended(x, 48, code), 48);
        }
    }

    /** The number behind a code of the size 4 to 7, that a sample far enough gets. */
    private static int ended(SteppedSamples x, int number, int code) {
        int step = x.step(number);
        int value = -2048 + step + (code & 2) / 2 * (step / 2) + (code & 1) * (step / 4);
        CHECK.due("its code", x.ifCoded(-2048, number, value, 0), code);
        return x.ifCoded(-2048, number, value, 2);
    }

    private static void codeForSample() {
        CHECK.says("The code for a sample v: the difference d is v less the guess;");
        codeFor(500, 8, 520, 4);
        codeFor(520, 8, 500, 12);
        codeFor(-10, 8, 10, 4);
        codeFor(-2048, 48, 2047, 7);
        codeFor(2047, 48, -2048, 15);
        CHECK.says("the sign bit is there if d is below 0;");
        codeFor(5, 8, 4, 8);
        codeFor(5, 8, 5, 0);
        codeFor(5, 8, 6, 0);
        // The step 8 is 20: its half 10, its quarter 5; the step 9 is 23: its half 11, its quarter 5.
        CHECK.says("with e as d without sign: the bit 4 is there if e is at least s, and e becomes less by s then;");
        codeFor(0, 8, 19, 3);
        codeFor(0, 8, 20, 4);
        codeFor(0, 8, 21, 4);
        codeFor(0, 8, -19, 11);
        codeFor(0, 8, -20, 12);
        codeFor(0, 9, 22, 3);
        codeFor(0, 9, 23, 4);
        CHECK.says("the bit 2 if e is at least s / 2, and e becomes less by that;");
        codeFor(0, 8, 9, 1);
        codeFor(0, 8, 10, 2);
        codeFor(0, 8, 29, 5);
        codeFor(0, 8, 30, 6);
        codeFor(0, 9, 10, 1);
        codeFor(0, 9, 11, 2);
        codeFor(0, 9, -33, 13);
        codeFor(0, 9, -34, 14);
        CHECK.says("the bit 1 if e is at least s / 4.");
        codeFor(0, 8, 4, 0);
        codeFor(0, 8, 5, 1);
        codeFor(0, 8, 14, 2);
        codeFor(0, 8, 15, 3);
        codeFor(0, 8, 24, 4);
        codeFor(0, 8, 25, 5);
        codeFor(0, 9, 15, 2);
        codeFor(0, 9, 16, 3);
        codeFor(0, 9, -38, 14);
        codeFor(0, 9, -39, 15);
        codeFor(0, 0, 0, 0);
        codeFor(0, 0, 1, 1);
    }

    private static void waves() {
        CHECK.of("Waves, blocks");
        CHECK.says("A wave has 1 to 64 samples, numbered from 0,");
        CHECK.range("wave()", Checks.ARGUMENT, 1, 64, SteppedSamples::wave);
        for (int many : new int[] {1, 64}) {
            CHECK.rangeOn("sampleOf() of " + many, Checks.INDEX, 0, many - 1, (x, sample) -> x.sampleOf(sample, 0),
                () -> Made.silent(many, 2));
        }
        CHECK.says("at first 32 samples of 0.");
        SteppedSamples x = new SteppedSamples();
        CHECK.due("count(0)", x.count(0), 32);
        for (int sample = 0; sample < 32; sample++) {
            CHECK.due("sampleOf(" + sample + ", 0)", x.sampleOf(sample, 0), 10000);
        }
        CHECK.refusedOn("sampleOf(32, 0)", Checks.INDEX, y -> y.sampleOf(32, 0), Made::fresh);
    }

    private static void codedOrNot() {
        CHECK.says("A wave is coded or not, at first not;");
        CHECK.due("count(1)", new SteppedSamples().count(1), 0);
        CHECK.due("count(1) behind code()", codedBehind(y -> y.code()), 1);
        CHECK.says("each wave(), sample(), add(), and set() of the settings 0 and 1, also if nothing is another one by "
            + "it, makes it not coded.");
        CHECK.due("coded behind wave()", codedBehind(y -> y.wave(5)), 0);
        CHECK.due("coded behind sample()", codedBehind(y -> y.sample(0, 1)), 0);
        CHECK.due("coded behind add()", codedBehind(y -> y.add(0, 1, 1)), 0);
        CHECK.due("coded behind set(0, 3)", codedBehind(y -> y.set(0, 3)), 0);
        CHECK.due("coded behind set(1, 1)", codedBehind(y -> y.set(1, 1)), 0);
        CHECK.due("coded behind the same wave()", codedBehind(y -> y.wave(4)), 0);
        CHECK.due("coded behind the same sample()", codedBehind(y -> y.sample(0, 0)), 0);
        CHECK.due("coded behind an add() of nothing", codedBehind(y -> y.add(0, 0, 1)), 0);
        CHECK.due("coded behind the same set(0, 2)", codedBehind(y -> y.set(0, 2)), 0);
        CHECK.due("coded behind the same set(1, 0)", codedBehind(y -> y.set(1, 0)), 0);
        CHECK.due("coded behind set(2, 0)", codedBehind(y -> y.set(2, 0)), 1);
        CHECK.due("coded behind set(2, 2)", codedBehind(y -> y.set(2, 2)), 1);
        CHECK.due("coded behind lose()", codedBehind(y -> y.lose(0)), 1);
        CHECK.due("coded behind spoil()", codedBehind(y -> y.spoil(1, 0)), 1);
    }

    /** A silent wave of 4 samples in blocks of two, coded, and then this call. */
    private static int codedBehind(Checks.Call call) {
        SteppedSamples x = Made.silent(4, 2);
        call.on(x);
        return x.count(1);
    }

    private static void blocks() {
        CHECK.says("It is coded in blocks, numbered from 0, of setting 0 samples each (the last one perhaps shorter).");
        int[][] cases = {{1, 2, 1}, {2, 2, 1}, {3, 2, 2}, {64, 2, 32}, {63, 2, 32}, {16, 16, 1}, {17, 16, 2},
            {15, 16, 1}, {64, 16, 4}, {64, 7, 10}, {1, 16, 1}};
        for (int[] one : cases) {
            SteppedSamples x = Made.silent(one[0], one[1]);
            String what = one[0] + " samples by " + one[1];
            CHECK.due(what + ", blocks", x.count(2), one[2]);
            for (int block = 0; block < one[2] - 1; block++) {
                CHECK.due(what + ", samples of block " + block, x.blockOf(block, 0), one[1]);
            }
            CHECK.due(what + ", samples of the last block", x.blockOf(one[2] - 1, 0), one[0] - (one[2] - 1) * one[1]);
            CHECK.rangeOn(what + ", blockOf()", Checks.INDEX, 0, one[2] - 1, (y, block) -> y.blockOf(block, 0),
                () -> Made.silent(one[0], one[1]));
        }
        CHECK.says("A block has a header: its first sample, as it is, which is the first guess, and the number of a "
            + "step;");
        SteppedSamples x = Made.codedBy(2, -2048, 9, 2047, 9, 1);
        int[] firsts = {-2048, 2047, 1};
        for (int block = 0; block < 3; block++) {
            CHECK.due("first sample", x.blockOf(block, 1), 10000 + firsts[block]);
            CHECK.due("made of the first sample", x.sampleOf(2 * block, 1), 10000 + firsts[block]);
            CHECK.due("guess at the first sample", x.sampleOf(2 * block, 2), 10000 + firsts[block]);
            CHECK.due("number behind the first sample", x.sampleOf(2 * block, 4), x.blockOf(block, 2));
        }
        CHECK.says("and a code for each further sample.");
        CHECK.samples("codes", Made.small(), 3, -1, 7, -1, 2);
        CHECK.samples("codes of 3 and 2", Made.codedBy(3, 0, 0, 0, 0, 0), 3, -1, 0, 0, -1, 0);
        CHECK.due("code of a single one", Made.codedBy(2, 1, 2, 3).sampleOf(2, 3), -1);
    }

    private static void starts() {
        CHECK.says("To code a wave is to code its blocks one behind the other.");
        CHECK.samples("guesses", Made.small(), 2, 10000, 10011, 10050, 10062);
        CHECK.samples("numbers", Made.small(), 4, 0, 8, 8, 7);
        CHECK.says("The number of the step in the header is, with setting 1 as 0, for the first block 0, for each other "
            + "one the number to which the block before led;");
        // 100 from 0 leads to 8; 60 from 50 to 7; the block of one leads to where it began.
        SteppedSamples x = Made.codedBy(2, 0, 100, 50, 60, 7);
        CHECK.due("start of block 0", x.blockOf(0, 2), 0);
        CHECK.due("start of block 1", x.blockOf(1, 2), 8);
        CHECK.due("start of block 2", x.blockOf(2, 2), 7);
        CHECK.due("block 2 leads to", x.blockOf(2, 5), 7);
        x.code();
        CHECK.due("start of block 0 anew", x.blockOf(0, 2), 0);
        CHECK.due("start of block 2 anew", x.blockOf(2, 2), 7);
        SteppedSamples up = Made.codedBy(2, -2048, 2047, -2048, 2047, -2048, 2047, -2048, 2047, -2048, 2047, -2048,
            2047, -2048, 2047, -2048, 2047);
        for (int block = 0; block < 8; block++) {
            CHECK.due("start of block " + block, up.blockOf(block, 2), Math.min(48, 8 * block));
        }
    }

    private static void bestStarts() {
        CHECK.says("with setting 1 as 1 the one with which the error of the block is the least, of several the least "
            + "number.");
        SteppedSamples x = Made.waveOf(0, 2047, 50, 70, 50, 60, 7);
        x.set(0, 2);
        x.set(1, 1);
        x.code();
        // The step 48 comes to 1165 + 582 + 291 + 145, which is clipped; the step 47 to 1984.
        CHECK.due("start of 0, 2047", x.blockOf(0, 2), 48);
        CHECK.due("error of 0, 2047", x.blockOf(0, 4), 0);
        // The steps 0 to 6 make 11, 15, 16, 18, 19, 18, 22 of the 20 from 50; the step 7 (18) makes 2 + 18.
        CHECK.due("start of 50, 70", x.blockOf(1, 2), 7);
        CHECK.due("error of 50, 70", x.blockOf(1, 4), 0);
        // The steps 0 and 2 make just 10 of the 10; the step 1 makes 11.
        CHECK.due("start of 50, 60", x.blockOf(2, 2), 0);
        CHECK.due("start of one sample", x.blockOf(3, 2), 0);
        SteppedSamples led = Made.waveOf(0, 100, 3);
        led.set(0, 2);
        led.set(1, 1);
        led.code();
        CHECK.due("start of one sample behind others", led.blockOf(1, 2), 0);
    }

    private static void errors() {
        CHECK.says("The error of a block is the sum of the squares of the differences of its samples and what the "
            + "decoder makes of it.");
        SteppedSamples x = Made.small();
        CHECK.due("error of block 0", x.blockOf(0, 4), 89 * 89);
        CHECK.due("error of block 1", x.blockOf(1, 4), 2 * 2);
        x.lose(1);
        CHECK.due("error of a lost block", x.blockOf(1, 4), 39 * 39 + 49 * 49);
        Made.type(x, "3,0:f");
        x.load(0);
        CHECK.due("error of a loaded block", x.blockOf(0, 4), 3 * 3 + 108 * 108);
        CHECK.says("The decoder takes the header, and goes through the codes.");
        CHECK.samples("made", x, 1, 10003, 9992);
        CHECK.samples("made of a wave", Made.small(), 1, 10000, 10011, 10050, 10062);
        SteppedSamples three = Made.codedBy(4, 0, 0, 0, 0);
        Made.type(three, "100,8:74f");
        three.load(0);
        // The steps 8, 16, 18 (20, 50, 62): 20 + 10 + 5 + 2; 50 + 6; 62 + 31 + 15 + 7, taken off.
        CHECK.samples("made of three codes", three, 1, 10100, 10137, 10193, 10078);
        CHECK.samples("numbers behind three codes", three, 4, 8, 16, 18, 26);
    }

    private static void filledWithLast() {
        CHECK.says("A block that is lost is filled instead, by setting 2: 0: all with the last sample made of the block "
            + "before (0 for the block 0);");
        filled(0, new int[] {}, 7, 10, 9, 20, 5);
        filled(0, new int[] {0}, 0, 0, 9, 20, 5);
        filled(0, new int[] {1}, 7, 10, 10, 10, 5);
        filled(0, new int[] {2}, 7, 10, 9, 20, 20);
        filled(0, new int[] {1, 2}, 7, 10, 10, 10, 10);
        filled(0, new int[] {0, 2}, 0, 0, 9, 20, 20);
        filled(0, new int[] {2, 1, 0}, 0, 0, 0, 0, 0);
        filled(0, new int[] {1, 1}, 7, 10, 9, 20, 5);
    }

    private static void filledOtherwise() {
        CHECK.says("1: all with 0;");
        filled(1, new int[] {0}, 0, 0, 9, 20, 5);
        filled(1, new int[] {1}, 7, 10, 0, 0, 5);
        filled(1, new int[] {2}, 7, 10, 9, 20, 0);
        filled(1, new int[] {1, 1}, 7, 10, 9, 20, 5);
        CHECK.says("2: with the samples made of the block before, one by one from its beginning, and 0 where there is "
            + "none.");
        filled(2, new int[] {0}, 0, 0, 9, 20, 5);
        filled(2, new int[] {1}, 7, 10, 7, 10, 5);
        filled(2, new int[] {2}, 7, 10, 9, 20, 9);
        filled(2, new int[] {1, 2}, 7, 10, 7, 10, 7);
        filled(2, new int[] {0, 1}, 0, 0, 0, 0, 5);
        filled(2, new int[] {0, 1, 2}, 0, 0, 0, 0, 0);
        SteppedSamples whole = Made.codedBy(2, 7, 10, 9, 20);
        whole.set(2, 2);
        whole.lose(1);
        CHECK.samples("a whole last block, filled by 2", whole, 1, 10007, 10010, 10007, 10010);
        for (int filling = 0; filling < 3; filling++) {
            SteppedSamples longest = new SteppedSamples();
            longest.wave(64);
            longest.add(0, 5, 1);
            longest.set(0, 16);
            longest.set(2, filling);
            longest.code();
            longest.lose(3);
            int want = filling == 1 ? 10000 : longest.sampleOf(47, 1);
            CHECK.due("the last of 64 samples, filled by " + filling, longest.sampleOf(63, 1), want);
            CHECK.due("the one before the lost block", longest.sampleOf(47, 1), 10005);
        }
    }

    /**
     * 7, 10, 9, 20, 5 in blocks of two, which the decoder makes just so: with the step 0 (7), 10 from 7 gets the code 2
     * and leads to 0 again, and 20 from 9 the code 7.
     */
    private static void filled(int filling, int[] lost, int... want) {
        SteppedSamples x = Made.codedBy(2, 7, 10, 9, 20, 5);
        x.set(2, filling);
        for (int block : lost) {
            x.lose(block);
        }
        int[] told = new int[want.length];
        for (int k = 0; k < want.length; k++) {
            told[k] = 10000 + want[k];
        }
        CHECK.samples("lost " + java.util.Arrays.toString(lost) + ", filled by " + filling, x, 1, told);
    }

    private static void settings() {
        CHECK.of("Settings");
        int[] atFirst = {8, 0, 0};
        String[] words = {"0: samples of a block, 2 to 16, at first 8;", "1: starts of blocks, 0 or 1, at first 0;",
            "2: how lost blocks are filled, 0 to 2, at first 0."};
        int[][] ranges = {{2, 16}, {0, 1}, {0, 2}};
        for (int setting = 0; setting < 3; setting++) {
            CHECK.says(words[setting]);
            int which = setting;
            CHECK.due("setting(" + which + ")", new SteppedSamples().setting(which), atFirst[which]);
            CHECK.range("set(" + which + ", ..)", Checks.ARGUMENT, ranges[which][0], ranges[which][1],
                (x, value) -> x.set(which, value));
        }
    }
}
