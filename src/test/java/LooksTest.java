/** Promises 18 to 22. */
public final class LooksTest {
    private static final Checks CHECK = new Checks("LooksTest");

    public static void main(String[] args) {
        step();
        sampleOf();
        sampleOfMore();
        sampleOfRefuses();
        blockOf();
        blockOfMore();
        blockOfRefuses();
        countOfWave();
        countOfErrors();
        countOfCalls();
        setting();
        CHECK.end();
    }

    // ---- promise 18

    private static void step() {
        CHECK.of(18);
        CHECK.says("Returns a step of the table.");
        SteppedSamples x = new SteppedSamples();
        int step = 7;
        for (int number = 0; number <= 48; number++) {
            CHECK.due("step(" + number + ")", x.step(number), step);
            step += step / 10 + 1;
        }
        CHECK.changesNothing("step(9)", y -> y.step(9));
        CHECK.says("`number`: 0 to 48");
        CHECK.due("step(0)", x.step(0), 7);
        CHECK.due("step(48)", x.step(48), 1165);
        CHECK.says("Returns the step.");
        CHECK.due("step(8)", x.step(8), 20);
        CHECK.due("step(47)", x.step(47), 1059);
        CHECK.says("Throws `IndexOutOfBoundsException` if there is no such step");
        CHECK.range("step()", Checks.INDEX, 0, 48, SteppedSamples::step);
    }

    // ---- promise 19

    private static void sampleOf() {
        CHECK.of(19);
        CHECK.says("Returns a property of a sample.");
        for (int what = 0; what < 6; what++) {
            int which = what;
            CHECK.changesNothing("sampleOf(3, " + what + ")", x -> x.sampleOf(3, which));
        }
        CHECK.says("`sample`: its number");
        CHECK.samples("values of all", Made.waveOf(9, 8, 7, 6), 0, 10009, 10008, 10007, 10006);
        CHECK.says("`what`: 0: its value, plus 10000;");
        SteppedSamples ends = Made.waveOf(-2048, -1, 0, 1, 2047);
        CHECK.samples("values", ends, 0, 7952, 9999, 10000, 10001, 12047);
        ends.code();
        ends.lose(0);
        CHECK.samples("values of a lost block", ends, 0, 7952, 9999, 10000, 10001, 12047);
        CHECK.says("1: what the decoder makes of it, plus 10000;");
        SteppedSamples x = Made.small();
        CHECK.samples("made", x, 1, 10000, 10011, 10050, 10062);
        x.lose(1);
        CHECK.samples("made, lost", x, 1, 10000, 10011, 10011, 10011);
        x.spoil(1, 3);
        CHECK.samples("made, lost and spoiled", x, 1, 10000, 9989, 9989, 9989);
        CHECK.says("2: what the coder had as its guess behind it when the wave was coded (for the first one of a block "
            + "its value), plus 10000;");
        CHECK.samples("guesses, lost and spoiled", x, 2, 10000, 10011, 10050, 10062);
        Made.type(x, "-3,48:f");
        x.load(0);
        CHECK.samples("guesses, loaded", x, 2, 10000, 10011, 10050, 10062);
        x.code();
        CHECK.samples("guesses, coded anew", x, 2, 10000, 10011, 10050, 10062);
        x.sample(1, 5);
        x.code();
        // 5 from 0 gets the code 3, 4, and leads to 0; 60 from 50 the code 6, 60.
        CHECK.samples("guesses of another wave", x, 2, 10000, 10004, 10050, 10060);
        CHECK.says("3: its code, NONE for a first one of a block;");
        CHECK.samples("codes", Made.small(), 3, -1, 7, -1, 2);
        CHECK.samples("codes in threes", Made.silent(8, 3), 3, -1, 0, 0, -1, 0, 0, -1, 0);
        CHECK.due("code of a block of one", Made.silent(64, 7).sampleOf(63, 3), -1);
        SteppedSamples lost = Made.small();
        lost.lose(1);
        CHECK.samples("codes of a lost block", lost, 3, -1, 7, -1, 2);
    }

    private static void sampleOfMore() {
        CHECK.says("4: the number of the step behind it, as the decoder goes;");
        SteppedSamples x = Made.small();
        CHECK.samples("numbers", x, 4, 0, 8, 8, 7);
        x.spoil(1, 2);
        CHECK.samples("numbers, spoiled", x, 4, 0, 0, 8, 7);
        Made.type(x, "0,47:6");
        x.load(1);
        CHECK.samples("numbers, loaded", x, 4, 0, 0, 47, 48);
        CHECK.says("5: its value less what the decoder makes, plus 10000;");
        CHECK.samples("differences", Made.small(), 5, 10000, 10089, 10000, 9998);
        SteppedSamples far = Made.codedBy(2, 2047, 0, -2048, 0);
        Made.type(far, "-2048,0:0");
        far.load(0);
        Made.type(far, "2047,0:0");
        far.load(1);
        CHECK.due("the greatest difference", far.sampleOf(0, 5), 14095);
        CHECK.due("the least difference", far.sampleOf(2, 5), 5905);
        CHECK.says("NONE for 1 to 5 if the wave is not coded,");
        x.set(0, 2);
        CHECK.samples("values, not coded", x, 0, 10000, 10100, 10050, 10060);
        for (int what = 1; what < 6; what++) {
            CHECK.samples("property " + what + ", not coded any more", x, what, -1, -1, -1, -1);
            CHECK.samples("property " + what + ", never coded", new SteppedSamples(), what, -1, -1, -1, -1);
        }
        CHECK.says("and for 4 if its block is lost");
        SteppedSamples lost = Made.small();
        lost.lose(1);
        CHECK.samples("numbers", lost, 4, 0, 8, -1, -1);
        lost.lose(0);
        lost.lose(1);
        CHECK.samples("numbers of another lost one", lost, 4, -1, -1, 8, 7);
        CHECK.samples("differences of a lost one", lost, 5, 10000, 10100, 10000, 9998);
        CHECK.says("Returns the property.");
        CHECK.due("sampleOf(1, 3)", Made.small().sampleOf(1, 3), 7);
    }

    private static void sampleOfRefuses() {
        CHECK.says("Throws `IndexOutOfBoundsException` if there is no such sample");
        for (int what = 0; what < 6; what++) {
            int which = what;
            CHECK.rangeIfCoded("sampleOf(.., " + what + ")", Checks.INDEX, 0, 10, (x, sample) -> x.sampleOf(sample, which));
            CHECK.rangeOn("sampleOf(.., " + what + ") of 64", Checks.INDEX, 0, 63, (x, sample) -> x.sampleOf(sample, which),
                () -> Made.silent(64, 8));
            CHECK.rangeOn("sampleOf(.., " + what + "), not coded", Checks.INDEX, 0, 31,
                (x, sample) -> x.sampleOf(sample, which), Made::fresh);
        }
        for (int what : new int[] {-1, 6, Integer.MIN_VALUE, Integer.MAX_VALUE}) {
            CHECK.refused("sampleOf(64, " + what + ")", Checks.INDEX, x -> x.sampleOf(64, what));
            CHECK.refused("sampleOf(-1, " + what + ")", Checks.INDEX, x -> x.sampleOf(-1, what));
        }
        CHECK.says("Throws `IllegalArgumentException` if what is not 0 to 5");
        CHECK.range("sampleOf(0, ..)", Checks.ARGUMENT, 0, 5, (x, what) -> x.sampleOf(0, what));
        CHECK.range("sampleOf(5, ..)", Checks.ARGUMENT, 0, 5, (x, what) -> x.sampleOf(5, what));
    }

    // ---- promise 20

    private static void blockOf() {
        CHECK.of(20);
        CHECK.says("Returns a property of a block.");
        for (int what = 0; what < 6; what++) {
            int which = what;
            CHECK.changesNothingIfCoded("blockOf(1, " + what + ")", x -> x.blockOf(1, which));
        }
        CHECK.says("`block`: its number");
        SteppedSamples each = Made.codedBy(2, -5, 0, 6, 0, -7);
        CHECK.due("blockOf(0, 1)", each.blockOf(0, 1), 9995);
        CHECK.due("blockOf(1, 1)", each.blockOf(1, 1), 10006);
        CHECK.due("blockOf(2, 1)", each.blockOf(2, 1), 9993);
        CHECK.says("`what`: 0: its samples;");
        CHECK.due("samples of block 0", each.blockOf(0, 0), 2);
        CHECK.due("samples of block 2", each.blockOf(2, 0), 1);
        CHECK.due("samples of a wide block", Made.silent(64, 16).blockOf(3, 0), 16);
        CHECK.due("samples of a last one", Made.silent(31, 16).blockOf(1, 0), 15);
        CHECK.says("1: the first sample in its header, plus 10000;");
        SteppedSamples x = Made.codedBy(2, -2048, 0, 2047, 0);
        CHECK.due("the least first sample", x.blockOf(0, 1), 7952);
        CHECK.due("the greatest first sample", x.blockOf(1, 1), 12047);
        Made.type(x, "12,3:4");
        x.load(0);
        x.lose(0);
        CHECK.due("the first sample of the header, not of the wave", x.blockOf(0, 1), 10012);
        CHECK.says("2: the number of the step in its header;");
        CHECK.due("loaded number", x.blockOf(0, 2), 3);
        CHECK.due("number of block 0", Made.small().blockOf(0, 2), 0);
        CHECK.due("number of block 1", Made.small().blockOf(1, 2), 8);
    }

    private static void blockOfMore() {
        CHECK.says("3: 1 if it is lost, otherwise 0;");
        SteppedSamples x = Made.small();
        CHECK.due("blockOf(1, 3)", x.blockOf(1, 3), 0);
        x.lose(1);
        CHECK.due("blockOf(1, 3), lost", x.blockOf(1, 3), 1);
        CHECK.due("blockOf(0, 3)", x.blockOf(0, 3), 0);
        CHECK.says("4: its error;");
        CHECK.due("error", Made.small().blockOf(0, 4), 89 * 89);
        CHECK.due("error of a lost one", x.blockOf(1, 4), 39 * 39 + 49 * 49);
        CHECK.due("error of the one before it", x.blockOf(0, 4), 89 * 89);
        CHECK.due("error of a block of one", Made.silent(3, 2).blockOf(1, 4), 0);
        SteppedSamples far = farthest();
        CHECK.due("the greatest error", far.blockOf(3, 4), 16 * 4095 * 4095);
        CHECK.says("5: the number of the step to which its codes lead");
        CHECK.due("block 0 leads to", Made.small().blockOf(0, 5), 8);
        CHECK.due("block 1 leads to", Made.small().blockOf(1, 5), 7);
        x.spoil(3, 2);
        CHECK.due("a lost and spoiled one leads to", x.blockOf(1, 5), 8 + 6);
        SteppedSamples one = Made.silent(3, 2);
        Made.type(one, "0,33:");
        one.load(1);
        CHECK.due("a block of one leads to", one.blockOf(1, 5), 33);
        CHECK.says("Returns the property.");
        CHECK.due("blockOf(1, 0)", Made.small().blockOf(1, 0), 2);
    }

    /** 64 times 2047, of which the decoder makes -2048: the greatest error there is. */
    private static SteppedSamples farthest() {
        SteppedSamples x = new SteppedSamples();
        x.wave(64);
        x.add(0, 2047, 1);
        x.set(0, 16);
        x.code();
        for (int block = 0; block < 4; block++) {
            Made.type(x, "-2048,0:888888888888888");
            x.load(block);
        }
        return x;
    }

    private static void blockOfRefuses() {
        CHECK.says("Throws `IndexOutOfBoundsException` if there is no such block (also if the wave is not coded)");
        for (int what = 0; what < 6; what++) {
            int which = what;
            CHECK.rangeIfCoded("blockOf(.., " + what + ")", Checks.INDEX, 0, 2, (x, block) -> x.blockOf(block, which));
            CHECK.rangeOn("blockOf(.., " + what + ") of 32", Checks.INDEX, 0, 31, (x, block) -> x.blockOf(block, which),
                () -> Made.silent(64, 2));
            CHECK.refusedUnlessCoded("blockOf(0, " + what + "), not coded", Checks.INDEX, x -> x.blockOf(0, which));
        }
        for (int what : new int[] {-1, 6, Integer.MIN_VALUE, Integer.MAX_VALUE}) {
            CHECK.refused("blockOf(3, " + what + ")", Checks.INDEX, x -> x.blockOf(3, what));
            CHECK.refusedUnlessCoded("blockOf(0, " + what + "), not coded", Checks.INDEX, x -> x.blockOf(0, what));
        }
        CHECK.says("Throws `IllegalArgumentException` if what is not 0 to 5");
        CHECK.rangeIfCoded("blockOf(0, ..)", Checks.ARGUMENT, 0, 5, (x, what) -> x.blockOf(0, what));
        CHECK.rangeIfCoded("blockOf(2, ..)", Checks.ARGUMENT, 0, 5, (x, what) -> x.blockOf(2, what));
    }

    // ---- promise 21

    private static void countOfWave() {
        CHECK.of(21);
        CHECK.says("Returns a number.");
        for (int what = 0; what < 12; what++) {
            int which = what;
            CHECK.changesNothing("count(" + what + ")", x -> x.count(which));
        }
        CHECK.says("`what`: 0: samples;");
        CHECK.due("samples of a new one", new SteppedSamples().count(0), 32);
        CHECK.due("one sample", Made.silent(1, 2).count(0), 1);
        CHECK.due("64 samples", Made.silent(64, 2).count(0), 64);
        CHECK.says("1: 1 if the wave is coded, otherwise 0;");
        SteppedSamples x = Made.small();
        CHECK.due("coded", x.count(1), 1);
        x.undo();
        CHECK.due("not coded", x.count(1), 0);
        CHECK.says("2: blocks, 0 if it is not coded;");
        CHECK.due("not coded any more", x.count(2), 0);
        CHECK.due("never coded", new SteppedSamples().count(2), 0);
        CHECK.due("one block", Made.silent(1, 2).count(2), 1);
        CHECK.due("the most blocks", Made.silent(64, 2).count(2), 32);
        CHECK.due("five blocks", Made.silent(33, 8).count(2), 5);
        CHECK.says("3: lost blocks;");
        SteppedSamples lossy = Made.silent(64, 2);
        for (int block = 0; block < 32; block++) {
            lossy.lose(block);
            CHECK.due("lost blocks", lossy.count(3), 1 + block);
        }
        lossy.lose(7);
        CHECK.due("lost blocks but one", lossy.count(3), 31);
        lossy.add(0, 0, 1);
        CHECK.due("lost blocks, not coded", lossy.count(3), 0);
        lossy.code();
        CHECK.due("lost blocks, coded anew", lossy.count(3), 0);
    }

    private static SteppedSamples smallLost() {
        SteppedSamples x = Made.small();
        x.lose(1);
        return x;
    }

    private static void countOfErrors() {
        int error = 89 * 89 + 39 * 39 + 49 * 49;
        CHECK.says("4: the error of all blocks, told by samples;");
        CHECK.due("count(4)", Made.small().count(4), 7925);
        CHECK.due("count(4), lost", smallLost().count(4), error);
        CHECK.due("the greatest count(4)", farthest().count(4), 64 * 4095 * 4095);
        CHECK.says("5: the same, told by blocks;");
        CHECK.due("count(5)", Made.small().count(5), 7925);
        CHECK.due("count(5), lost", smallLost().count(5), error);
        CHECK.due("the greatest count(5)", farthest().count(5), 64 * 4095 * 4095);
        CHECK.says("6: the greatest difference, without sign;");
        CHECK.due("count(6)", Made.small().count(6), 89);
        CHECK.due("the greatest count(6)", farthest().count(6), 4095);
        CHECK.due("count(6), below 0", Made.codedBy(2, 2047, -2048).count(6), 2047 - 11 + 2048);
        CHECK.due("count(6), the last one", Made.codedBy(2, 0, 0, 0, 50).count(6), 39);
        CHECK.due("count(6), the first one", lostFirst().count(6), 70);
        CHECK.due("count(6) of just the same", Made.silent(64, 16).count(6), 0);
        CHECK.says("7: samples that the decoder makes just as they are;");
        CHECK.due("count(7)", Made.small().count(7), 2);
        CHECK.due("count(7), lost", smallLost().count(7), 1);
        CHECK.due("count(7) of all", Made.silent(64, 16).count(7), 64);
        CHECK.due("count(7) of none", farthest().count(7), 0);
        CHECK.says("8: bits of all headers and codes: 18 for a header, 4 for a code;");
        CHECK.due("count(8)", Made.small().count(8), 2 * 18 + 2 * 4);
        CHECK.due("count(8), lost", smallLost().count(8), 2 * 18 + 2 * 4);
        CHECK.due("count(8) of one", Made.silent(1, 16).count(8), 18);
        CHECK.due("count(8) of the most blocks", Made.silent(64, 2).count(8), 32 * 22);
        CHECK.due("count(8) of wide blocks", Made.silent(64, 16).count(8), 4 * 18 + 60 * 4);
        CHECK.due("count(8) with a short one", Made.silent(33, 8).count(8), 5 * 18 + 28 * 4);
        CHECK.says("4 to 8 are 0 if the wave is not coded;");
        SteppedSamples x = Made.small();
        x.add(0, 0, 1);
        for (int what = 4; what <= 8; what++) {
            CHECK.due("count(" + what + "), not coded any more", x.count(what), 0);
            CHECK.due("count(" + what + "), never coded", Made.waveOf(5, 900).count(what), 0);
        }
    }

    private static SteppedSamples lostFirst() {
        SteppedSamples x = Made.codedBy(2, 70, -60, 0, 0);
        x.lose(0);
        return x;
    }

    private static void countOfCalls() {
        CHECK.says("9: how often a wave was coded so far;");
        SteppedSamples x = Made.small();
        CHECK.due("count(9)", x.count(9), 1);
        x.code();
        x.wave(7);
        CHECK.due("count(9), not coded", x.count(9), 2);
        x.ifBlock(0, 2, 0);
        x.bestStep(0, 2);
        x.code();
        CHECK.due("count(9), coded three times", x.count(9), 3);
        x.undo();
        CHECK.due("count(9), undone", x.count(9), 2);
        CHECK.says("10: bits turned over so far;");
        SteppedSamples y = Made.small();
        y.spoil(1, 3);
        y.spoil(1, 3);
        y.ifSpoiled(1, 3);
        CHECK.due("count(10)", y.count(10), 2);
        Made.type(y, "0,0:0");
        y.load(0);
        CHECK.due("count(10) behind load()", y.count(10), 2);
        y.code();
        CHECK.due("count(10) behind code()", y.count(10), 2);
        y.wave(9);
        CHECK.due("count(10), not coded", y.count(10), 2);
        CHECK.says("11: saved states");
        SteppedSamples z = new SteppedSamples();
        for (int many = 0; many <= 8; many++) {
            CHECK.due("count(11)", z.count(11), Math.min(6, many));
            z.set(2, 0);
        }
        z.undo();
        CHECK.due("count(11), undone", z.count(11), 5);
        CHECK.says("Returns the number.");
        CHECK.due("count(0)", z.count(0), 32);
        CHECK.says("Throws `IllegalArgumentException` if what is not 0 to 11");
        CHECK.range("count()", Checks.ARGUMENT, 0, 11, SteppedSamples::count);
    }

    // ---- promise 22

    private static void setting() {
        CHECK.of(22);
        CHECK.says("Returns a setting.");
        SteppedSamples x = new SteppedSamples();
        CHECK.due("setting(0) at first", x.setting(0), 8);
        CHECK.due("setting(1) at first", x.setting(1), 0);
        CHECK.due("setting(2) at first", x.setting(2), 0);
        CHECK.changesNothing("setting(1)", y -> y.setting(1));
        CHECK.says("`setting`: 0 to 2");
        x.set(0, 11);
        x.set(1, 1);
        x.set(2, 2);
        CHECK.due("setting(0)", x.setting(0), 11);
        CHECK.due("setting(2)", x.setting(2), 2);
        CHECK.says("Returns its value.");
        CHECK.due("setting(1)", x.setting(1), 1);
        CHECK.says("Throws `IndexOutOfBoundsException` if there is no such setting");
        CHECK.range("setting()", Checks.INDEX, 0, 2, SteppedSamples::setting);
    }
}
