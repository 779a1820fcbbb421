/** Promises 7 to 9. */
public final class CodesTest {
    private static final Checks CHECK = new Checks("CodesTest");

    public static void main(String[] args) {
        promise7();
        promise7Starts();
        promise7Anew();
        promise8();
        promise8Fills();
        promise9();
        CHECK.end();
    }

    private static void promise7() {
        CHECK.due("code()", new SteppedSamples().code(), 4);
        int[][] cases = {{1, 2, 1}, {1, 16, 1}, {2, 2, 1}, {3, 2, 2}, {64, 2, 32}, {64, 16, 4}, {63, 16, 4}, {33, 8, 5}};
        for (int[] one : cases) {
            SteppedSamples x = new SteppedSamples();
            x.wave(one[0]);
            x.set(0, one[1]);
            CHECK.due("code() of " + one[0] + " by " + one[1], x.code(), one[2]);
            int last = one[0] - (one[2] - 1) * one[1];
            CHECK.due("samples of the last block", x.blockOf(one[2] - 1, 0), last);
        }
        SteppedSamples x = Checks.small();
        CHECK.samples("codes", x, 3, -1, 7, -1, 2);
        CHECK.samples("guesses", x, 2, 10000, 10011, 10050, 10062);
        CHECK.samples("made", x, 1, 10000, 10011, 10050, 10062);
        CHECK.undoable("code()", x, () -> x.code());
        SteppedSamples fresh = new SteppedSamples();
        CHECK.undoable("first code()", fresh, () -> fresh.code());
    }

    private static void promise7Starts() {
        SteppedSamples led = Checks.small();
        CHECK.due("start of block 0", led.blockOf(0, 2), 0);
        CHECK.due("start of block 1", led.blockOf(1, 2), 8);
        SteppedSamples best = Checks.waveOf(0, 100, 50, 70, 7);
        best.set(0, 2);
        best.set(1, 1);
        best.code();
        for (int block = 0; block < 3; block++) {
            int many = block == 2 ? 1 : 2;
            CHECK.due("best start of block " + block, best.blockOf(block, 2), best.bestStep(2 * block, many));
        }
        // The steps 0 to 6 make 11, 15, 16, 18, 19, 18, 22 of the 20 from 50; the step 7 (18) makes 2 + 18.
        CHECK.due("best start of 50, 70", best.blockOf(1, 2), 7);
        CHECK.due("best start of one sample", best.blockOf(2, 2), 0);
        CHECK.due("error of 50, 70", best.blockOf(1, 4), 0);
    }

    private static void promise7Anew() {
        SteppedSamples x = Checks.small();
        x.lose(0);
        x.lose(1);
        x.spoil(1, 0);
        x.spoil(3, 3);
        CHECK.due("code() anew", x.code(), 2);
        CHECK.due("lost blocks", x.count(3), 0);
        CHECK.due("codings", x.count(9), 2);
        CHECK.due("bits turned over stay counted", x.count(10), 2);
        CHECK.samples("codes anew", x, 3, -1, 7, -1, 2);
        Checks.type(x, "9,9:9");
        x.load(1);
        x.code();
        CHECK.due("first of block 1 anew", x.blockOf(1, 1), 10050);
        CHECK.due("start of block 1 anew", x.blockOf(1, 2), 8);
    }

    private static void promise8() {
        SteppedSamples x = Checks.small();
        CHECK.due("lose(1)", x.lose(1), 1);
        CHECK.due("blockOf(1, 3)", x.blockOf(1, 3), 1);
        CHECK.due("lose(0)", x.lose(0), 2);
        CHECK.due("lose(1) finds it", x.lose(1), 1);
        CHECK.due("blockOf(1, 3) again", x.blockOf(1, 3), 0);
        CHECK.due("count(3)", x.count(3), 1);
        for (int block : new int[] {-1, 2, 31, 32, Integer.MIN_VALUE, Integer.MAX_VALUE}) {
            CHECK.refused("lose(" + block + ")", x, Checks.INDEX, () -> x.lose(block));
        }
        CHECK.undoable("lose(0)", x, () -> x.lose(0));
        x.sample(0, 0);
        CHECK.refused("lose(0) not coded", x, Checks.INDEX, () -> x.lose(0));
        CHECK.due("count(3) not coded", x.count(3), 0);
    }

    private static void promise8Fills() {
        SteppedSamples x = Checks.small();
        x.lose(1);
        CHECK.samples("filled with the last", x, 1, 10000, 10011, 10011, 10011);
        x.set(2, 1);
        CHECK.samples("filled with 0", x, 1, 10000, 10011, 10000, 10000);
        x.set(2, 2);
        CHECK.samples("filled with the block before", x, 1, 10000, 10011, 10000, 10011);
        for (int filling = 0; filling < 3; filling++) {
            SteppedSamples first = Checks.waveOf(7, 7, 9, 30, 5);
            first.set(0, 2);
            first.set(2, filling);
            first.code();
            first.lose(0);
            CHECK.samples("block 0 filled by " + filling, first, 1, 10000, 10000, 10009, first.sampleOf(3, 2));
            first.lose(2);
            int[] want = {first.sampleOf(3, 1), 10000, 10009};
            CHECK.due("short block filled by " + filling, first.sampleOf(4, 1), want[filling]);
            first.lose(1);
            CHECK.samples("all blocks filled by " + filling, first, 1, 10000, 10000, 10000, 10000, 10000);
        }
        SteppedSamples chain = Checks.waveOf(50, 57, 1, 2, 3, 4);
        chain.set(0, 2);
        chain.code();
        chain.lose(1);
        chain.lose(2);
        int last = chain.sampleOf(1, 1);
        CHECK.samples("two lost behind", chain, 1, 10050, last, last, last, last, last);
        chain.set(2, 2);
        CHECK.samples("two lost behind, by samples", chain, 1, 10050, last, 10050, last, 10050, last);
    }

    private static void promise9() {
        SteppedSamples x = Checks.small();
        CHECK.due("spoil(1, 3)", x.spoil(1, 3), 15);
        CHECK.due("made by 15", x.sampleOf(1, 1), 9989);
        CHECK.due("spoil(1, 2)", x.spoil(1, 2), 11);
        CHECK.due("made by 11", x.sampleOf(1, 1), 9996);
        CHECK.due("number behind 11", x.sampleOf(1, 4), 0);
        CHECK.due("spoil(1, 1)", x.spoil(1, 1), 9);
        CHECK.due("spoil(1, 0)", x.spoil(1, 0), 8);
        CHECK.due("made by 8", x.sampleOf(1, 1), 10000);
        CHECK.due("count(10)", x.count(10), 4);
        CHECK.due("guess of the coder stays", x.sampleOf(1, 2), 10011);
        CHECK.due("start of block 1 stays", x.blockOf(1, 2), 8);
        CHECK.due("block 0 leads to", x.blockOf(0, 5), 0);
        CHECK.undoable("spoil(3, 0)", x, () -> x.spoil(3, 0));
        x.lose(1);
        CHECK.due("spoil(3, 0) in a lost block", x.spoil(3, 0), 3);
        for (int sample : new int[] {-1, 0, 2, 4, 63, 64, Integer.MIN_VALUE, Integer.MAX_VALUE}) {
            CHECK.refused("spoil(" + sample + ", 0)", x, Checks.INDEX, () -> x.spoil(sample, 0));
            CHECK.refused("spoil(" + sample + ", 4)", x, Checks.INDEX, () -> x.spoil(sample, 4));
        }
        for (int bit : new int[] {-1, 4, 32, Integer.MIN_VALUE, Integer.MAX_VALUE}) {
            CHECK.refused("spoil(1, " + bit + ")", x, Checks.ARGUMENT, () -> x.spoil(1, bit));
        }
        x.set(1, 0);
        CHECK.refused("spoil(1, 0) not coded", x, Checks.INDEX, () -> x.spoil(1, 0));
    }
}
