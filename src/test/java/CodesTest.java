/** Promises 7 to 9. */
public final class CodesTest {
    private static final Checks CHECK = new Checks("CodesTest");

    public static void main(String[] args) {
        code();
        codeAnew();
        lose();
        loseRefuses();
        spoil();
        spoilRefuses();
        CHECK.end();
    }

    // ---- promise 7

    private static void code() {
        CHECK.of(7);
        CHECK.says("Codes the wave, anew if it is coded;");
        SteppedSamples x = Made.small();
        CHECK.samples("codes", x, 3, -1, 7, -1, 2);
        CHECK.samples("guesses", x, 2, 10000, 10011, 10050, 10062);
        CHECK.samples("made", x, 1, 10000, 10011, 10050, 10062);
        x.spoil(1, 0);
        x.spoil(3, 3);
        Made.type(x, "9,9:9");
        x.load(1);
        x.code();
        CHECK.samples("codes anew", x, 3, -1, 7, -1, 2);
        CHECK.samples("guesses anew", x, 2, 10000, 10011, 10050, 10062);
        CHECK.due("first of block 1 anew", x.blockOf(1, 1), 10050);
        CHECK.due("start of block 1 anew", x.blockOf(1, 2), 8);
        CHECK.due("count(1)", x.count(1), 1);
        CHECK.due("count(9)", x.count(9), 2);
        CHECK.due("count(10) stays", x.count(10), 2);
        CHECK.samples("values stay", x, 0, 10000, 10100, 10050, 10060);
        SteppedSamples other = Made.small();
        other.sample(1, 0);
        other.code();
        CHECK.samples("codes of another wave", other, 3, -1, 0, -1, 6);
        SteppedSamples wider = Made.small();
        wider.set(0, 3);
        wider.code();
        CHECK.due("codes in wider blocks", wider.sampleOf(2, 3), 7);
        CHECK.due("first of the block behind", wider.sampleOf(3, 3), -1);
        SteppedSamples narrower = Made.codedBy(4, 0, 100, 50, 60);
        narrower.set(0, 2);
        narrower.code();
        CHECK.samples("codes in narrower blocks", narrower, 3, -1, 7, -1, 2);
    }

    private static void codeAnew() {
        CHECK.says("no block is lost then.");
        SteppedSamples x = Made.small();
        x.lose(0);
        x.lose(1);
        x.code();
        CHECK.due("count(3)", x.count(3), 0);
        CHECK.due("blockOf(0, 3)", x.blockOf(0, 3), 0);
        CHECK.due("blockOf(1, 3)", x.blockOf(1, 3), 0);
        SteppedSamples longer = Made.silent(64, 2);
        longer.lose(31);
        longer.wave(32);
        longer.code();
        longer.wave(64);
        longer.code();
        CHECK.due("count(3) behind other waves", longer.count(3), 0);
        CHECK.due("blockOf(31, 3)", longer.blockOf(31, 3), 0);
        CHECK.says("Undoable.");
        CHECK.undoable("code()", y -> y.code());
        CHECK.undoableOn("code() of the small one", y -> y.code(), Made::small);
        CHECK.says("Returns how many blocks there are.");
        CHECK.due("code() of a new object", new SteppedSamples().code(), 4);
        int[][] cases = {{1, 2, 1}, {1, 16, 1}, {2, 2, 1}, {3, 2, 2}, {64, 2, 32}, {64, 16, 4}, {63, 16, 4}, {33, 8, 5},
            {16, 16, 1}, {17, 16, 2}, {15, 16, 1}};
        for (int[] one : cases) {
            CHECK.due("code() of " + one[0] + " by " + one[1], Made.silent(one[0], one[1]).code(), one[2]);
        }
    }

    // ---- promise 8

    private static void lose() {
        CHECK.of(8);
        CHECK.says("Loses a block, or finds it again, if it is lost.");
        SteppedSamples x = Made.small();
        x.lose(1);
        CHECK.due("blockOf(1, 3)", x.blockOf(1, 3), 1);
        CHECK.due("blockOf(0, 3)", x.blockOf(0, 3), 0);
        CHECK.samples("made", x, 1, 10000, 10011, 10011, 10011);
        CHECK.samples("codes stay", x, 3, -1, 7, -1, 2);
        x.lose(1);
        CHECK.due("blockOf(1, 3) again", x.blockOf(1, 3), 0);
        CHECK.samples("made again", x, 1, 10000, 10011, 10050, 10062);
        CHECK.says("Undoable.");
        CHECK.undoableIfCoded("lose(0)", y -> y.lose(0));
        CHECK.undoableIfCoded("lose(1), which finds it", y -> y.lose(1));
        CHECK.says("`block`: its number");
        for (int[] one : new int[][] {{1, 2, 1}, {64, 2, 32}, {64, 16, 4}, {33, 8, 5}}) {
            CHECK.rangeOn("lose() of " + one[2], Checks.INDEX, 0, one[2] - 1, SteppedSamples::lose,
                () -> Made.silent(one[0], one[1]));
        }
        CHECK.says("Returns how many blocks are lost then.");
        SteppedSamples many = Made.silent(64, 2);
        for (int block = 31; block >= 0; block--) {
            CHECK.due("lose(" + block + ")", many.lose(block), 32 - block);
        }
        for (int block = 0; block < 32; block++) {
            CHECK.due("lose(" + block + ") again", many.lose(block), 31 - block);
        }
    }

    private static void loseRefuses() {
        CHECK.says("Throws `IndexOutOfBoundsException` if there is no such block (also if the wave is not coded)");
        CHECK.rangeIfCoded("lose()", Checks.INDEX, 0, 2, SteppedSamples::lose);
        CHECK.refusedUnlessCoded("lose(0)", Checks.INDEX, x -> x.lose(0));
        CHECK.refusedUnlessCoded("lose(-1)", Checks.INDEX, x -> x.lose(-1));
        CHECK.refusedUnlessCoded("lose(1)", Checks.INDEX, x -> x.lose(1));
        CHECK.refusedOn("lose(31) of a wave that was longer", Checks.INDEX, x -> x.lose(31), () -> {
            SteppedSamples x = Made.silent(64, 2);
            x.wave(62);
            x.code();
            return x;
        });
    }

    // ---- promise 9

    private static void spoil() {
        CHECK.of(9);
        CHECK.says("Turns a bit of a code over.");
        SteppedSamples x = Made.small();
        x.spoil(1, 3);
        CHECK.samples("codes", x, 3, -1, 15, -1, 2);
        CHECK.samples("made", x, 1, 10000, 9989, 10050, 10062);
        x.spoil(1, 2);
        CHECK.due("made by 11", x.sampleOf(1, 1), 9996);
        CHECK.due("number behind 11", x.sampleOf(1, 4), 0);
        CHECK.due("block 0 leads to", x.blockOf(0, 5), 0);
        CHECK.due("start of block 1 stays", x.blockOf(1, 2), 8);
        CHECK.due("guess of the coder stays", x.sampleOf(1, 2), 10011);
        CHECK.due("count(10)", x.count(10), 2);
        CHECK.due("count(1)", x.count(1), 1);
        CHECK.says("Undoable.");
        CHECK.undoableIfCoded("spoil(1, 0)", y -> y.spoil(1, 0));
        CHECK.undoableIfCoded("spoil(10, 3)", y -> y.spoil(10, 3));
        CHECK.undoableIfCoded("spoil(5, 1) in a lost block", y -> y.spoil(5, 1));
        CHECK.says("`sample`: the sample to which the code belongs");
        SteppedSamples each = Made.silent(11, 4);
        for (int sample : new int[] {1, 2, 3, 5, 6, 7, 9, 10}) {
            each.spoil(sample, sample % 4);
        }
        CHECK.samples("codes", each, 3, -1, 2, 4, 8, -1, 2, 4, 8, -1, 2, 4);
        CHECK.says("`bit`: 0 to 3: the bit 1, 2, 4 or 8");
        for (int bit = 0; bit < 4; bit++) {
            SteppedSamples silent = Made.silent(2, 2);
            CHECK.due("spoil(1, " + bit + ") of 0", silent.spoil(1, bit), 1 << bit);
            CHECK.due("spoil(1, " + bit + ") again", silent.spoil(1, bit), 0);
        }
        CHECK.says("Returns the code then.");
        CHECK.due("spoil(1, 3)", Made.small().spoil(1, 3), 15);
        CHECK.due("spoil(1, 0)", Made.small().spoil(1, 0), 6);
        CHECK.due("spoil(3, 0)", Made.small().spoil(3, 0), 3);
        CHECK.due("spoil(3, 1)", Made.small().spoil(3, 1), 0);
        SteppedSamples lost = Made.small();
        lost.lose(1);
        CHECK.due("spoil(3, 2) in a lost block", lost.spoil(3, 2), 6);
    }

    private static void spoilRefuses() {
        CHECK.says("Throws `IndexOutOfBoundsException` if there is no such sample, or it has no code (as the first one of "
            + "its block, or as the wave is not coded)");
        for (int sample : new int[] {-1, 11, 12, 64, 1 + 65536, Integer.MIN_VALUE, Integer.MAX_VALUE, 0, 4, 8}) {
            CHECK.refusedIfCoded("spoil(" + sample + ", 0)", Checks.INDEX, x -> x.spoil(sample, 0));
            CHECK.refusedIfCoded("spoil(" + sample + ", 4)", Checks.INDEX, x -> x.spoil(sample, 4));
            CHECK.refusedIfCoded("spoil(" + sample + ", -1)", Checks.INDEX, x -> x.spoil(sample, -1));
        }
        for (int sample : new int[] {-1, 0, 1, 10, 11, 31, 32, 64}) {
            CHECK.refusedUnlessCoded("spoil(" + sample + ", 0), not coded", Checks.INDEX, x -> x.spoil(sample, 0));
            CHECK.refusedUnlessCoded("spoil(" + sample + ", 4), not coded", Checks.INDEX, x -> x.spoil(sample, 4));
        }
        CHECK.rangeOn("spoil() of the last block", Checks.INDEX, 9, 10, (x, sample) -> x.spoil(sample, 0), Made::rich);
        CHECK.rangeOn("spoil() of a full wave", Checks.INDEX, 49, 63, (x, sample) -> x.spoil(sample, 0),
            () -> Made.silent(64, 16));
        CHECK.refusedOn("spoil(2, 0) of one sample", Checks.INDEX, x -> x.spoil(2, 0), () -> Made.silent(3, 2));
        CHECK.says("Throws `IllegalArgumentException` if bit is out of range");
        CHECK.rangeIfCoded("spoil(1, ..)", Checks.ARGUMENT, 0, 3, (x, bit) -> x.spoil(1, bit));
        CHECK.refusedIfCoded("spoil(1, 32)", Checks.ARGUMENT, x -> x.spoil(1, 32));
        CHECK.refusedIfCoded("spoil(1, 33)", Checks.ARGUMENT, x -> x.spoil(1, 33));
    }
}
