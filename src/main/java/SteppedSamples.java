/**
 * Samples squeezed to four bits by steps that grow and shrink with the wave.
 *
 * Every row is made once, in a constructor, and used again by all calls: no call makes an object but an exception.
 */
public final class SteppedSamples {
    /** There is nothing to return. */
    public static final int NONE = -1;

    private static final int LOWEST = -2048;
    private static final int HIGHEST = 2047;
    private static final int MOST_SAMPLES = 64;
    private static final int SAMPLES_AT_FIRST = 32;
    private static final int LONGEST_PERIOD = 64;

    private static final int SETTINGS = 3;
    private static final int BLOCK_SAMPLES = 0;
    private static final int BLOCK_STARTS = 1;
    private static final int FILLING = 2;
    private static final int SHORTEST_BLOCK = 2;
    private static final int LONGEST_BLOCK = 16;
    private static final int BLOCK_SAMPLES_AT_FIRST = 8;
    private static final int MOST_BLOCKS = MOST_SAMPLES / SHORTEST_BLOCK;
    private static final int BEST_START = 1;
    private static final int FILL_WITH_LAST = 0;
    private static final int FILL_WITH_ZERO = 1;

    private static final int LAST_STEP = 48;
    private static final int SIGN_BIT = 8;
    private static final int WHOLE_BIT = 4;
    private static final int HALF_BIT = 2;
    private static final int QUARTER_BIT = 1;
    private static final int HEADER_BITS = 18;
    private static final int CODE_BITS = 4;

    private static final int SLOTS = 2;
    private static final int SAVED_STATES = 6;
    private static final int BUFFER_LENGTH = 40;

    /** Samples are told with this added, so that none of them is taken for NONE. */
    private static final int SHIFT = 10000;
    private static final int COUNTS = 12;
    private static final int SAMPLE_PROPERTIES = 6;
    private static final int BLOCK_PROPERTIES = 6;

    private final State now = new State();
    private final History history = new History();
    private final State[] slots = {new State(), new State()};
    private final boolean[] kept = new boolean[SLOTS];
    private final BlockText buffer = new BlockText();
    private final Coder coder = new Coder();
    private final Decoder decoder = new Decoder();
    private final Decoder decoderAfter = new Decoder();
    private final Walk walk = new Walk();

    public SteppedSamples() {
    }

    // ---- waves

    public int wave(int many) throws IllegalArgumentException {
        if (many < 1 || many > MOST_SAMPLES) {
            throw new IllegalArgumentException("a wave has 1 to 64 samples");
        }
        beginChange();
        int had = now.many;
        now.becomeSilence(many);
        return had;
    }

    public int sample(int sample, int value) throws IndexOutOfBoundsException, IllegalArgumentException {
        if (!now.hasSample(sample)) {
            throw new IndexOutOfBoundsException("no such sample");
        }
        if (!isValue(value)) {
            throw new IllegalArgumentException("a sample is -2048 to 2047");
        }
        beginChange();
        int had = now.values[sample];
        now.values[sample] = value;
        now.forgetBlocks();
        return had + SHIFT;
    }

    public int add(int kind, int height, int period) throws IllegalArgumentException {
        if (kind < 0 || kind > 2) {
            throw new IllegalArgumentException("a kind is 0 to 2");
        }
        if (height < 0 || height > HIGHEST) {
            throw new IllegalArgumentException("a height is 0 to 2047");
        }
        if (period < 1 || period > LONGEST_PERIOD) {
            throw new IllegalArgumentException("a period is 1 to 64");
        }
        beginChange();
        int clipped = 0;
        for (int k = 0; k < now.many; k++) {
            int sum = now.values[k] + shape(kind, height, period, k % period);
            now.values[k] = clip(sum);
            if (!isValue(sum)) {
                clipped++;
            }
        }
        now.forgetBlocks();
        return clipped;
    }

    public int take() throws IllegalStateException {
        if (!now.isCoded()) {
            throw new IllegalStateException("the wave is not coded");
        }
        decoder.decode(now);
        beginChange();
        int others = now.many - decoder.justAsTheyAre(now);
        copyRow(decoder.made, now.values);
        now.forgetBlocks();
        return others;
    }

    public int set(int setting, int value) throws IndexOutOfBoundsException, IllegalArgumentException {
        if (!isSetting(setting)) {
            throw new IndexOutOfBoundsException("no such setting");
        }
        if (value < leastOfSetting(setting) || value > mostOfSetting(setting)) {
            throw new IllegalArgumentException("the value is out of the setting's range");
        }
        beginChange();
        int had = now.settings[setting];
        now.settings[setting] = value;
        if (setting != FILLING) {
            now.forgetBlocks();
        }
        return had;
    }

    // ---- codes

    public int code() {
        beginChange();
        coder.codeWave(now);
        return now.blocks;
    }

    public int lose(int block) throws IndexOutOfBoundsException {
        refuseUnlessBlock(block);
        beginChange();
        now.lost[block] = !now.lost[block];
        return now.lostBlocks();
    }

    public int spoil(int sample, int bit) throws IndexOutOfBoundsException, IllegalArgumentException {
        refuseUnlessCodeBit(sample, bit);
        beginChange();
        now.turnOver(sample, bit);
        now.turned++;
        return now.codes[sample];
    }

    // ---- texts, snapshots

    public int append(int code) throws IllegalArgumentException, IllegalStateException {
        if (code < 33 || code > 126) {
            throw new IllegalArgumentException("a character code is 33 to 126");
        }
        if (buffer.isFull()) {
            throw new IllegalStateException("the buffer is full");
        }
        buffer.put(code);
        return buffer.length;
    }

    public int clearBuffer() {
        int had = buffer.length;
        buffer.length = 0;
        return had;
    }

    public int firstError() {
        return buffer.read();
    }

    public int load(int block) throws IndexOutOfBoundsException, IllegalArgumentException {
        refuseUnlessBlock(block);
        if (!buffer.tellsBlock() || buffer.codeCount != now.codesOf(block)) {
            throw new IllegalArgumentException("the buffer does not tell such a block");
        }
        decoder.decode(now);
        beginChange();
        now.putBlock(block, buffer);
        buffer.length = 0;
        decoderAfter.upToDate = false;
        decoderAfter.decode(now);
        return decoderAfter.othersThan(decoder, now.many);
    }

    public int write(int block) throws IndexOutOfBoundsException {
        refuseUnlessBlock(block);
        buffer.tell(now, block);
        return buffer.length;
    }

    public int keep(int slot) throws IllegalArgumentException {
        refuseUnlessSlot(slot);
        slots[slot].copyFrom(now);
        kept[slot] = true;
        return now.many;
    }

    public int goBack(int slot) throws IllegalArgumentException, IllegalStateException {
        refuseUnlessSlot(slot);
        if (!kept[slot]) {
            throw new IllegalStateException("there is no snapshot in the slot");
        }
        beginChange();
        now.copyFrom(slots[slot]);
        return now.many;
    }

    public int undo() throws IllegalStateException {
        if (history.many == 0) {
            throw new IllegalStateException("there is no saved state");
        }
        history.restore(now);
        decoder.upToDate = false;
        return history.many;
    }

    // ---- looks; nothing is changed

    public int step(int number) throws IndexOutOfBoundsException {
        if (!isNumber(number)) {
            throw new IndexOutOfBoundsException("no such step");
        }
        return Walk.stepOf(number);
    }

    public int sampleOf(int sample, int what) throws IndexOutOfBoundsException, IllegalArgumentException {
        if (!now.hasSample(sample)) {
            throw new IndexOutOfBoundsException("no such sample");
        }
        if (what < 0 || what >= SAMPLE_PROPERTIES) {
            throw new IllegalArgumentException("no such property");
        }
        if (what == 0) {
            return now.values[sample] + SHIFT;
        }
        if (!now.isCoded()) {
            return NONE;
        }
        decoder.decode(now);
        switch (what) {
            case 1:
                return decoder.made[sample] + SHIFT;
            case 2:
                return now.guesses[sample] + SHIFT;
            case 3:
                return now.codes[sample];
            case 4:
                return decoder.numbers[sample];
            default:
                return now.values[sample] - decoder.made[sample] + SHIFT;
        }
    }

    public int blockOf(int block, int what) throws IndexOutOfBoundsException, IllegalArgumentException {
        refuseUnlessBlock(block);
        if (what < 0 || what >= BLOCK_PROPERTIES) {
            throw new IllegalArgumentException("no such property");
        }
        switch (what) {
            case 0:
                return now.endOf(block) - now.startOf(block);
            case 1:
                return now.firsts[block] + SHIFT;
            case 2:
                return now.starts[block];
            case 3:
                return now.lost[block] ? 1 : 0;
            case 4:
                decoder.decode(now);
                return decoder.errorOf(now, now.startOf(block), now.endOf(block));
            default:
                return leadOf(block);
        }
    }

    public int count(int what) throws IllegalArgumentException {
        if (what < 0 || what >= COUNTS) {
            throw new IllegalArgumentException("no such number");
        }
        switch (what) {
            case 0:
                return now.many;
            case 1:
                return now.isCoded() ? 1 : 0;
            case 2:
                return now.blocks;
            case 3:
                return now.lostBlocks();
            case 9:
                return now.codings;
            case 10:
                return now.turned;
            case 11:
                return history.many;
            default:
                return now.isCoded() ? codedCount(what) : 0;
        }
    }

    public int setting(int setting) throws IndexOutOfBoundsException {
        if (!isSetting(setting)) {
            throw new IndexOutOfBoundsException("no such setting");
        }
        return now.settings[setting];
    }

    // ---- what would be; nothing is changed

    public int ifCoded(int guess, int number, int value, int what) throws IllegalArgumentException {
        if (!isValue(guess) || !isValue(value)) {
            throw new IllegalArgumentException("a guess and a sample are -2048 to 2047");
        }
        if (!isNumber(number)) {
            throw new IllegalArgumentException("a step's number is 0 to 48");
        }
        if (what < 0 || what > 2) {
            throw new IllegalArgumentException("no such number to tell");
        }
        walk.begin(guess, number);
        int code = walk.codeTowards(value);
        walk.follow(code);
        switch (what) {
            case 0:
                return code;
            case 1:
                return walk.guess + SHIFT;
            default:
                return walk.number;
        }
    }

    public int ifBlock(int first, int many, int number) throws IndexOutOfBoundsException, IllegalArgumentException {
        refuseUnlessSamples(first, many);
        if (!isNumber(number)) {
            throw new IllegalArgumentException("a step's number is 0 to 48");
        }
        return coder.errorAsBlock(now, first, first + many, number);
    }

    public int bestStep(int first, int many) throws IndexOutOfBoundsException {
        refuseUnlessSamples(first, many);
        return coder.bestStart(now, first, first + many);
    }

    public int ifSpoiled(int sample, int bit) throws IndexOutOfBoundsException, IllegalArgumentException {
        refuseUnlessCodeBit(sample, bit);
        decoder.decode(now);
        now.turnOver(sample, bit);
        decoderAfter.upToDate = false;
        decoderAfter.decode(now);
        now.turnOver(sample, bit);
        return decoderAfter.othersThan(decoder, now.many);
    }

    public double meanSquare() {
        if (!now.isCoded()) {
            return 0.0;
        }
        return (double) wholeError() / (double) now.many;
    }

    public float loudness() {
        if (!now.isCoded()) {
            return 0.0f;
        }
        int error = wholeError();
        if (error == 0) {
            return -1.0f;
        }
        int squares = 0;
        for (int k = 0; k < now.many; k++) {
            squares += now.values[k] * now.values[k];
        }
        return (float) squares / (float) error;
    }

    public long digest() {
        long hash = 3329L;
        for (int what = 0; what < COUNTS; what++) {
            hash = mix(hash, count(what));
        }
        for (int setting = 0; setting < SETTINGS; setting++) {
            hash = mix(hash, now.settings[setting]);
        }
        hash = mixSamplesAndBlocks(hash);
        hash = mixWhatWouldBe(hash);
        hash = mix(hash, bitsOfDouble(meanSquare()));
        hash = mix(hash, bitsOfFloat(loudness()));
        for (int slot = 0; slot < SLOTS; slot++) {
            hash = mix(hash, kept[slot] ? 1 : 0);
        }
        hash = mix(hash, buffer.length);
        for (int k = 0; k < buffer.length; k++) {
            hash = mix(hash, buffer.signs[k]);
        }
        return hash;
    }

    /** What the decoder has made stays to be looked at, but it makes all anew when it is asked again. */
    private void beginChange() {
        history.save(now);
        decoder.upToDate = false;
    }

    // ---- what the calls refuse

    private void refuseUnlessBlock(int block) {
        if (!now.hasBlock(block)) {
            throw new IndexOutOfBoundsException("no such block");
        }
    }

    private void refuseUnlessCodeBit(int sample, int bit) {
        if (!now.hasCode(sample)) {
            throw new IndexOutOfBoundsException("no such sample, or it has no code");
        }
        if (bit < 0 || bit >= CODE_BITS) {
            throw new IllegalArgumentException("a bit is 0 to 3");
        }
    }

    private void refuseUnlessSamples(int first, int many) {
        // many is held against what is left, as first + many may wrap around.
        if (!now.hasSample(first) || many < 1 || many > now.many - first) {
            throw new IndexOutOfBoundsException("there are not all these samples");
        }
    }

    private void refuseUnlessSlot(int slot) {
        if (slot < 0 || slot >= SLOTS) {
            throw new IllegalArgumentException("a slot is 0 or 1");
        }
    }

    // ---- ranges and shapes

    private static boolean isValue(int value) {
        return value >= LOWEST && value <= HIGHEST;
    }

    private static boolean isNumber(int number) {
        return number >= 0 && number <= LAST_STEP;
    }

    private static boolean isSetting(int setting) {
        return setting >= 0 && setting < SETTINGS;
    }

    private static int leastOfSetting(int setting) {
        return setting == BLOCK_SAMPLES ? SHORTEST_BLOCK : 0;
    }

    private static int mostOfSetting(int setting) {
        switch (setting) {
            case BLOCK_SAMPLES:
                return LONGEST_BLOCK;
            case BLOCK_STARTS:
                return 1;
            default:
                return 2;
        }
    }

    private static int clip(int number) {
        return Math.max(LOWEST, Math.min(HIGHEST, number));
    }

    /** What a shape adds at a phase; the period is 1 or more, and Java divides towards 0, as the shapes ask. */
    private static int shape(int kind, int height, int period, int phase) {
        switch (kind) {
            case 0:
                return 2 * phase < period ? height : -height;
            case 1:
                return height * (2 * phase - period) / period;
            default:
                return height * (4 * Math.abs(phase - period / 2) - period) / period;
        }
    }

    private static void copyRow(int[] from, int[] to) {
        System.arraycopy(from, 0, to, 0, Math.min(from.length, to.length));
    }

    // ---- what is told of a coded wave

    private int codedCount(int what) {
        decoder.decode(now);
        switch (what) {
            case 4:
                return decoder.errorOf(now, 0, now.many);
            case 5:
                return errorByBlocks();
            case 6:
                return decoder.greatestDifference(now);
            case 7:
                return decoder.justAsTheyAre(now);
            default:
                return HEADER_BITS * now.blocks + CODE_BITS * (now.many - now.blocks);
        }
    }

    private int wholeError() {
        decoder.decode(now);
        return decoder.errorOf(now, 0, now.many);
    }

    private int errorByBlocks() {
        int error = 0;
        for (int block = 0; block < now.blocks; block++) {
            error += decoder.errorOf(now, now.startOf(block), now.endOf(block));
        }
        return error;
    }

    /** The codes of a lost block are still there, and lead on, though the decoder does not go through them. */
    private int leadOf(int block) {
        walk.begin(now.firsts[block], now.starts[block]);
        for (int k = now.startOf(block) + 1; k < now.endOf(block); k++) {
            walk.follow(now.codes[k]);
        }
        return walk.number;
    }

    // ---- the hash

    private static long mix(long hash, long value) {
        return 31L * hash + value;
    }

    private long mixSamplesAndBlocks(long before) {
        long hash = before;
        for (int sample = 0; sample < now.many; sample++) {
            for (int what = 0; what < SAMPLE_PROPERTIES; what++) {
                hash = mix(hash, sampleOf(sample, what));
            }
        }
        for (int block = 0; block < now.blocks; block++) {
            for (int what = 0; what < BLOCK_PROPERTIES; what++) {
                hash = mix(hash, blockOf(block, what));
            }
        }
        return hash;
    }

    private long mixWhatWouldBe(long before) {
        long hash = mix(before, bestStep(0, now.many));
        for (int sample = 0; sample < now.many; sample++) {
            if (now.hasCode(sample)) {
                hash = mix(hash, ifSpoiled(sample, 3));
            }
        }
        return hash;
    }

    private static long bitsOfDouble(double number) {
        return number > 0.0 ? bitsOf(number, 52, 1023) : 0L;
    }

    private static int bitsOfFloat(float number) {
        if (number < 0.0f) {
            return Integer.MIN_VALUE + (int) bitsOf(-number, 23, 127);
        }
        return number > 0.0f ? (int) bitsOf(number, 23, 127) : 0;
    }

    /**
     * Built by halving and doubling, which lose nothing, as rule 4 of the language leaves out the library's functions
     * for it. The number is above 0 and a normal one, as all means and shares here are.
     */
    private static long bitsOf(double number, int fractionBits, int bias) {
        double rest = number;
        int exponent = 0;
        while (rest >= 2.0 && exponent < bias) {
            rest = rest / 2.0;
            exponent++;
        }
        while (rest < 1.0 && exponent > 1 - bias) {
            rest = rest * 2.0;
            exponent--;
        }
        long one = 1L << fractionBits;
        return (exponent + bias) * one + (long) ((rest - 1.0) * (double) one);
    }

    /** A guess and the number of a step, as the coder and the decoder both carry them from code to code. */
    private static final class Walk {
        private static final int[] STEPS = {
            7, 8, 9, 10, 12, 14, 16, 18, 20, 23,
            26, 29, 32, 36, 40, 45, 50, 56, 62, 69,
            76, 84, 93, 103, 114, 126, 139, 153, 169, 186,
            205, 226, 249, 274, 302, 333, 367, 404, 445, 490,
            540, 595, 655, 721, 794, 874, 962, 1059, 1165
        };

        int guess;
        int number;

        static int stepOf(int number) {
            return number >= 0 && number < STEPS.length ? STEPS[number] : 0;
        }

        void begin(int firstGuess, int firstNumber) {
            guess = firstGuess;
            number = firstNumber;
        }

        int codeTowards(int value) {
            int step = stepOf(number);
            int left = Math.abs(value - guess);
            int code = value < guess ? SIGN_BIT : 0;
            if (left >= step) {
                code |= WHOLE_BIT;
                left -= step;
            }
            if (left >= step / 2) {
                code |= HALF_BIT;
                left -= step / 2;
            }
            if (left >= step / 4) {
                code |= QUARTER_BIT;
            }
            return code;
        }

        void follow(int code) {
            int change = changeBy(stepOf(number), code);
            guess = clip((code & SIGN_BIT) != 0 ? guess - change : guess + change);
            int size = code & (SIGN_BIT - 1);
            int next = size < WHOLE_BIT ? number - 1 : number + 2 * (size - WHOLE_BIT + 1);
            number = Math.max(0, Math.min(LAST_STEP, next));
        }

        private static int changeBy(int step, int code) {
            int change = step / 8;
            if ((code & WHOLE_BIT) != 0) {
                change += step;
            }
            if ((code & HALF_BIT) != 0) {
                change += step / 2;
            }
            if ((code & QUARTER_BIT) != 0) {
                change += step / 4;
            }
            return change;
        }
    }

    /** All that a snapshot holds and an undo brings back. */
    private static final class State {
        /** 1 to 64. */
        int many = SAMPLES_AT_FIRST;
        final int[] values = new int[MOST_SAMPLES];
        final int[] settings = {BLOCK_SAMPLES_AT_FIRST, 0, 0};
        /** 0 as long as the wave is not coded; the rows below tell nothing then. */
        int blocks;
        final int[] firsts = new int[MOST_BLOCKS];
        final int[] starts = new int[MOST_BLOCKS];
        final boolean[] lost = new boolean[MOST_BLOCKS];
        /** By sample; NONE for the first one of a block. */
        final int[] codes = new int[MOST_SAMPLES];
        /** By sample; kept from the coding, as spoiled and loaded codes do not tell them any more. */
        final int[] guesses = new int[MOST_SAMPLES];
        int codings;
        int turned;

        void copyFrom(State other) {
            many = other.many;
            blocks = other.blocks;
            codings = other.codings;
            turned = other.turned;
            copyRow(other.values, values);
            copyRow(other.settings, settings);
            copyRow(other.firsts, firsts);
            copyRow(other.starts, starts);
            copyRow(other.codes, codes);
            copyRow(other.guesses, guesses);
            for (int block = 0; block < MOST_BLOCKS; block++) {
                lost[block] = other.lost[block];
            }
        }

        void becomeSilence(int newMany) {
            many = newMany;
            for (int k = 0; k < MOST_SAMPLES; k++) {
                values[k] = 0;
            }
            forgetBlocks();
        }

        void forgetBlocks() {
            blocks = 0;
        }

        boolean isCoded() {
            return blocks > 0;
        }

        boolean hasSample(int sample) {
            return sample >= 0 && sample < many;
        }

        boolean hasBlock(int block) {
            return block >= 0 && block < blocks;
        }

        boolean hasCode(int sample) {
            return isCoded() && hasSample(sample) && codes[sample] != NONE;
        }

        int startOf(int block) {
            return block * settings[BLOCK_SAMPLES];
        }

        int endOf(int block) {
            return Math.min(many, startOf(block) + settings[BLOCK_SAMPLES]);
        }

        int codesOf(int block) {
            return endOf(block) - startOf(block) - 1;
        }

        int lostBlocks() {
            int lostOnes = 0;
            for (int block = 0; block < blocks; block++) {
                if (lost[block]) {
                    lostOnes++;
                }
            }
            return lostOnes;
        }

        void turnOver(int sample, int bit) {
            codes[sample] ^= 1 << bit;
        }

        void putBlock(int block, BlockText text) {
            firsts[block] = text.first;
            starts[block] = text.number;
            lost[block] = false;
            int start = startOf(block);
            for (int k = 0; k < codesOf(block) && k < text.codes.length; k++) {
                codes[start + 1 + k] = text.codes[k];
            }
        }
    }

    /** The states that undo brings back, the oldest one first. */
    private static final class History {
        private final State[] saved = {
            new State(), new State(), new State(), new State(), new State(), new State()
        };
        int many;

        void save(State state) {
            if (many == SAVED_STATES) {
                dropOldest();
            }
            saved[many].copyFrom(state);
            many++;
        }

        void restore(State state) {
            many--;
            state.copyFrom(saved[many]);
        }

        private void dropOldest() {
            State dropped = saved[0];
            for (int k = 1; k < SAVED_STATES; k++) {
                saved[k - 1] = saved[k];
            }
            saved[SAVED_STATES - 1] = dropped;
            many--;
        }
    }

    /** Makes the blocks of a wave. */
    private static final class Coder {
        private final Walk walk = new Walk();

        void codeWave(State state) {
            int number = 0;
            int blocks = 0;
            while (blocks < MOST_BLOCKS && state.startOf(blocks) < state.many) {
                if (state.settings[BLOCK_STARTS] == BEST_START) {
                    number = bestStart(state, state.startOf(blocks), state.endOf(blocks));
                }
                codeBlock(state, blocks, number);
                number = walk.number;
                blocks++;
            }
            state.blocks = blocks;
            state.codings++;
        }

        private void codeBlock(State state, int block, int number) {
            int start = state.startOf(block);
            int first = state.values[start];
            state.firsts[block] = first;
            state.starts[block] = number;
            state.lost[block] = false;
            state.codes[start] = NONE;
            state.guesses[start] = first;
            walk.begin(first, number);
            for (int k = start + 1; k < state.endOf(block); k++) {
                int code = walk.codeTowards(state.values[k]);
                walk.follow(code);
                state.codes[k] = code;
                state.guesses[k] = walk.guess;
            }
        }

        int errorAsBlock(State state, int start, int end, int number) {
            int error = 0;
            walk.begin(state.values[start], number);
            for (int k = start + 1; k < end; k++) {
                walk.follow(walk.codeTowards(state.values[k]));
                int difference = state.values[k] - walk.guess;
                error += difference * difference;
            }
            return error;
        }

        int bestStart(State state, int start, int end) {
            int best = 0;
            int least = errorAsBlock(state, start, end, 0);
            for (int number = 1; number <= LAST_STEP; number++) {
                int error = errorAsBlock(state, start, end, number);
                if (error < least) {
                    least = error;
                    best = number;
                }
            }
            return best;
        }
    }

    /** Makes samples of the blocks of a coded wave. */
    private static final class Decoder {
        final int[] made = new int[MOST_SAMPLES];
        /** The numbers of the steps behind the samples; NONE in a lost block. */
        final int[] numbers = new int[MOST_SAMPLES];
        private final Walk walk = new Walk();
        /** Kept as looks come in rows: a digest alone asks some hundreds of times for the same. */
        boolean upToDate;

        void decode(State state) {
            if (upToDate) {
                return;
            }
            for (int block = 0; block < state.blocks; block++) {
                if (state.lost[block]) {
                    fillBlock(state, block);
                } else {
                    decodeBlock(state, block);
                }
            }
            upToDate = true;
        }

        private void decodeBlock(State state, int block) {
            int start = state.startOf(block);
            walk.begin(state.firsts[block], state.starts[block]);
            for (int k = start; k < state.endOf(block); k++) {
                if (k > start) {
                    walk.follow(state.codes[k]);
                }
                made[k] = walk.guess;
                numbers[k] = walk.number;
            }
        }

        private void fillBlock(State state, int block) {
            for (int k = state.startOf(block); k < state.endOf(block); k++) {
                made[k] = fillingOf(state, block, k);
                numbers[k] = NONE;
            }
        }

        /** The block before is never the last one, so it has a sample for each one of this block. */
        private int fillingOf(State state, int block, int k) {
            int filling = state.settings[FILLING];
            if (block == 0 || filling == FILL_WITH_ZERO) {
                return 0;
            }
            if (filling == FILL_WITH_LAST) {
                return made[state.startOf(block) - 1];
            }
            return made[k - state.settings[BLOCK_SAMPLES]];
        }

        int errorOf(State state, int start, int end) {
            int error = 0;
            for (int k = start; k < end; k++) {
                int difference = state.values[k] - made[k];
                error += difference * difference;
            }
            return error;
        }

        int greatestDifference(State state) {
            int greatest = 0;
            for (int k = 0; k < state.many; k++) {
                greatest = Math.max(greatest, Math.abs(state.values[k] - made[k]));
            }
            return greatest;
        }

        int justAsTheyAre(State state) {
            int same = 0;
            for (int k = 0; k < state.many; k++) {
                if (state.values[k] == made[k]) {
                    same++;
                }
            }
            return same;
        }

        int othersThan(Decoder before, int many) {
            int others = 0;
            for (int k = 0; k < many; k++) {
                if (made[k] != before.made[k]) {
                    others++;
                }
            }
            return others;
        }
    }

    /** The buffer, and what has been read of it. */
    private static final class BlockText {
        private static final int IN_FIRST = 0;
        private static final int IN_NUMBER = 1;
        private static final int IN_CODES = 2;

        final int[] signs = new int[BUFFER_LENGTH];
        int length;

        int first;
        int number;
        final int[] codes = new int[LONGEST_BLOCK - 1];
        int codeCount;

        private int part;
        private boolean negative;
        private boolean hasDigit;
        private int digits;

        boolean isFull() {
            return length >= BUFFER_LENGTH;
        }

        void put(int sign) {
            if (!isFull()) {
                signs[length] = sign;
                length++;
            }
        }

        void tell(State state, int block) {
            length = 0;
            putNumber(state.firsts[block]);
            put(',');
            putNumber(state.starts[block]);
            put(':');
            for (int k = state.startOf(block) + 1; k < state.endOf(block); k++) {
                int code = state.codes[k];
                put(code < 10 ? '0' + code : 'a' + code - 10);
            }
        }

        private void putNumber(int value) {
            if (value < 0) {
                put('-');
            }
            int size = Math.abs(value);
            for (int unit = 1000; unit > 0; unit /= 10) {
                if (size >= unit || unit == 1) {
                    put('0' + size / unit % 10);
                }
            }
        }

        boolean tellsBlock() {
            return read() == length && part == IN_CODES;
        }

        /** Answers the index of the first character with which no block as a text goes on; the length if none. */
        int read() {
            part = IN_FIRST;
            negative = false;
            codeCount = 0;
            beginDigits();
            for (int k = 0; k < length; k++) {
                if (!readsOn(signs[k])) {
                    return k;
                }
            }
            return length;
        }

        private boolean readsOn(int sign) {
            switch (part) {
                case IN_FIRST:
                    return readsFirst(sign);
                case IN_NUMBER:
                    return readsNumber(sign);
                default:
                    return readsCode(sign);
            }
        }

        private boolean readsFirst(int sign) {
            if (sign == '-' && !negative && !hasDigit) {
                negative = true;
                return true;
            }
            if (sign == ',' && hasDigit) {
                first = negative ? -digits : digits;
                part = IN_NUMBER;
                beginDigits();
                return true;
            }
            boolean minusZero = negative && !hasDigit && sign == '0';
            return !minusZero && readsDigit(sign, negative ? -LOWEST : HIGHEST);
        }

        private boolean readsNumber(int sign) {
            if (sign == ':' && hasDigit) {
                number = digits;
                part = IN_CODES;
                return true;
            }
            return readsDigit(sign, LAST_STEP);
        }

        private boolean readsCode(int sign) {
            int code = NONE;
            if (sign >= '0' && sign <= '9') {
                code = sign - '0';
            } else if (sign >= 'a' && sign <= 'f') {
                code = sign - 'a' + 10;
            }
            if (code == NONE || codeCount >= codes.length) {
                return false;
            }
            codes[codeCount] = code;
            codeCount++;
            return true;
        }

        private void beginDigits() {
            digits = 0;
            hasDigit = false;
        }

        private boolean readsDigit(int sign, int most) {
            boolean leadingZero = hasDigit && digits == 0;
            if (sign < '0' || sign > '9' || leadingZero) {
                return false;
            }
            int longer = 10 * digits + sign - '0';
            if (longer > most) {
                return false;
            }
            digits = longer;
            hasDigit = true;
            return true;
        }
    }
}
