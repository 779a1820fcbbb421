/** Promises 10 to 14. */
public final class TextsTest {
    private static final Checks CHECK = new Checks("TextsTest");

    public static void main(String[] args) {
        append();
        appendRefuses();
        clearBuffer();
        firstError();
        load();
        loadAnswers();
        loadRefuses();
        write();
        writeRefuses();
        CHECK.end();
    }

    private static SteppedSamples buffered(int many) {
        SteppedSamples x = new SteppedSamples();
        for (int k = 0; k < many; k++) {
            x.append('f');
        }
        return x;
    }

    // ---- promise 10

    private static void append() {
        CHECK.of(10);
        CHECK.says("Appends a character to the buffer.");
        SteppedSamples x = new SteppedSamples();
        x.append('-');
        x.append('1');
        x.append('7');
        CHECK.holds("the buffer", Made.holds(x, "-17"));
        CHECK.due("count(11)", x.count(11), 0);
        CHECK.leavesStates("append(48)", y -> y.append(48));
        CHECK.says("`code`: the character code, 33 to 126");
        for (int code = 33; code <= 126; code++) {
            SteppedSamples one = new SteppedSamples();
            CHECK.due("append(" + code + ")", one.append(code), 1);
            CHECK.holds("the buffer with " + code, Made.holds(one, String.valueOf((char) code)));
        }
        CHECK.says("Returns the new length of the buffer.");
        SteppedSamples y = new SteppedSamples();
        for (int k = 1; k <= 40; k++) {
            CHECK.due("append " + k, y.append(k % 2 == 0 ? 33 : 126), k);
        }
    }

    private static void appendRefuses() {
        CHECK.says("Throws `IllegalArgumentException` if code is not 33 to 126");
        CHECK.range("append()", Checks.ARGUMENT, 33, 126, SteppedSamples::append);
        for (int code : new int[] {0, 9, 10, 32, 127, 128, 255, 256 + 48, 65536 + 48, 48 - 65536}) {
            CHECK.refused("append(" + code + ")", Checks.ARGUMENT, x -> x.append(code));
            CHECK.refusedOn("append(" + code + ") to a full buffer", Checks.ARGUMENT, x -> x.append(code),
                () -> buffered(40));
        }
        CHECK.says("Throws `IllegalStateException` if the buffer has 40 characters");
        CHECK.due("append(48) to 39", buffered(39).append(48), 40);
        for (int code : new int[] {33, 48, 126}) {
            CHECK.refusedOn("append(" + code + ") to 40", Checks.STATE, x -> x.append(code), () -> buffered(40));
        }
    }

    // ---- promise 11

    private static void clearBuffer() {
        CHECK.of(11);
        CHECK.says("Clears the buffer.");
        SteppedSamples x = new SteppedSamples();
        long empty = x.digest();
        Made.type(x, "12,3:");
        x.clearBuffer();
        CHECK.due("the digest", x.digest(), empty);
        CHECK.due("append(48)", x.append(48), 1);
        CHECK.leavesStates("clearBuffer()", y -> y.clearBuffer());
        CHECK.changesNothingOn("clearBuffer() of nothing", y -> y.clearBuffer(), Made::fresh, Made::small);
        CHECK.says("Returns the length that it had.");
        for (int many = 0; many <= 40; many++) {
            SteppedSamples y = buffered(many);
            CHECK.due("clearBuffer()", y.clearBuffer(), many);
            CHECK.due("clearBuffer() again", y.clearBuffer(), 0);
        }
    }

    // ---- promise 12

    private static int errorOf(String text) {
        SteppedSamples x = new SteppedSamples();
        Made.type(x, text);
        return x.firstError();
    }

    private static void firstError() {
        CHECK.of(12);
        CHECK.says("Finds the first syntax error of the buffer.");
        CHECK.due("two errors", errorOf("0,00:g"), 3);
        CHECK.due("an error behind a right beginning", errorOf("0,0:0G11"), 5);
        CHECK.due("all of it errors", errorOf("zzz"), 0);
        CHECK.changesNothing("firstError()", x -> x.firstError());
        SteppedSamples x = new SteppedSamples();
        Made.type(x, "0,x");
        CHECK.due("firstError()", x.firstError(), 2);
        CHECK.due("firstError() again", x.firstError(), 2);
        x.clearBuffer();
        CHECK.due("firstError() of a cleared buffer", x.firstError(), 0);
        CHECK.says("Returns the index of the first character that is a syntax error;");
        CHECK.due("at the first character", errorOf("x"), 0);
        CHECK.due("at the second one", errorOf("-0"), 1);
        CHECK.due("at the 2048th", errorOf("2048"), 3);
        CHECK.due("at the 49th step", errorOf("5,49"), 3);
        CHECK.due("at the 16th code", errorOf("-2048,48:0123456789abcdef"), 24);
        CHECK.due("in a full buffer", errorOf("-2048,48:0123456789abcdef000000000000000"), 24);
        CHECK.due("in a full buffer of the same", errorOf("f".repeat(40)), 0);
        CHECK.says("the length of the buffer if there is none.");
        for (String text : new String[] {"", "-", "0", "-2048", "2047", "0,", "0,4", "0,48", "0,48:", "0,0:f",
            "-2048,48:0123456789abcde"}) {
            CHECK.due("firstError() of " + text, errorOf(text), text.length());
        }
    }

    // ---- promise 13

    private static SteppedSamples smallWith(String text) {
        SteppedSamples x = Made.small();
        Made.type(x, text);
        return x;
    }

    private static void load() {
        CHECK.of(13);
        CHECK.says("Puts the block that the buffer tells in place of a block,");
        SteppedSamples x = smallWith("-5,48:f");
        x.load(0);
        CHECK.due("first sample", x.blockOf(0, 1), 9995);
        CHECK.due("number", x.blockOf(0, 2), 48);
        CHECK.samples("codes", x, 3, -1, 15, -1, 2);
        CHECK.samples("made", x, 1, 9995, 7952, 10050, 10062);
        CHECK.samples("values stay", x, 0, 10000, 10100, 10050, 10060);
        CHECK.samples("guesses of the coder stay", x, 2, 10000, 10011, 10050, 10062);
        CHECK.due("start of block 1 stays", x.blockOf(1, 2), 8);
        CHECK.due("count(1)", x.count(1), 1);
        CHECK.due("count(9) stays", x.count(9), 1);
        CHECK.due("count(10) stays", x.count(10), 0);
        SteppedSamples longest = Made.silent(64, 16);
        Made.type(longest, "-2048,48:0123456789abcde");
        longest.load(3);
        CHECK.due("first sample of the last block", longest.blockOf(3, 1), 7952);
        for (int k = 0; k < 15; k++) {
            CHECK.due("code " + k, longest.sampleOf(49 + k, 3), k);
        }
        SteppedSamples shortest = Made.silent(3, 2);
        Made.type(shortest, "2047,3:");
        shortest.load(1);
        CHECK.due("first sample of a block of one", shortest.blockOf(1, 1), 12047);
        CHECK.due("number of a block of one", shortest.blockOf(1, 5), 3);
        CHECK.says("not lost,");
        SteppedSamples lost = smallWith("1,1:1");
        lost.lose(0);
        lost.lose(1);
        lost.load(0);
        CHECK.due("blockOf(0, 3)", lost.blockOf(0, 3), 0);
        CHECK.due("blockOf(1, 3)", lost.blockOf(1, 3), 1);
        CHECK.says("and clears the buffer.");
        CHECK.due("clearBuffer()", lost.clearBuffer(), 0);
        CHECK.says("Undoable.");
        CHECK.undoableIfCoded("load(0)", y -> {
            Made.type(y, "-9,5:123");
            y.load(0);
        });
        CHECK.undoableIfCoded("load(1) of a lost one", y -> {
            Made.type(y, "-9,5:123");
            y.load(1);
        });
        CHECK.undoableIfCoded("load(2) of the same one", y -> {
            y.write(2);
            y.load(2);
        });
    }

    private static void loadAnswers() {
        CHECK.says("`block`: its number");
        for (int block = 0; block < 32; block++) {
            SteppedSamples x = Made.silent(64, 2);
            Made.type(x, "7,0:0");
            x.load(block);
            CHECK.due("first sample of block " + block, x.blockOf(block, 1), 10007);
            CHECK.due("count(7)", x.count(7), 62);
        }
        CHECK.says("Returns how many samples made by the decoder become others by it.");
        CHECK.due("the same block", smallWith("0,0:7").load(0), 0);
        // The step 1 is 8: with its quarter and its eighth, it comes to 11 too.
        CHECK.due("another header, the same samples", smallWith("0,1:5").load(0), 0);
        CHECK.due("another first sample", smallWith("1,0:7").load(0), 2);
        CHECK.due("another code", smallWith("0,0:6").load(0), 1);
        SteppedSamples x = smallWith("7,0:0");
        x.lose(1);
        CHECK.due("with a lost block behind it", x.load(0), 4);
        SteppedSamples zeros = smallWith("7,0:0");
        zeros.set(2, 1);
        zeros.lose(1);
        CHECK.due("with a block filled with 0 behind it", zeros.load(0), 2);
        SteppedSamples lost = smallWith("0,0:7");
        lost.lose(0);
        CHECK.due("in place of a lost block", lost.load(0), 1);
        SteppedSamples whole = Made.silent(16, 16);
        Made.type(whole, "-2048,48:000000000000000");
        CHECK.due("all of 16", whole.load(0), 16);
        SteppedSamples again = smallWith("0,0:7");
        CHECK.due("the same block at first", again.load(0), 0);
        int[] others = {2, 0, 1, 2};
        String[] texts = {"1,0:0", "1,0:8", "1,0:f", "0,0:7"};
        for (int k = 0; k < texts.length; k++) {
            again.ifSpoiled(3, 3);
            Made.type(again, texts[k]);
            CHECK.due("and then " + texts[k], again.load(0), others[k]);
        }
        SteppedSamples one = Made.silent(3, 2);
        Made.type(one, "0,48:");
        CHECK.due("a block of one with the same sample", one.load(1), 0);
    }

    private static void loadRefuses() {
        CHECK.says("Throws `IndexOutOfBoundsException` if there is no such block (also if the wave is not coded)");
        for (int block : new int[] {-1, 2, 3, 31, 32, 65536, Integer.MIN_VALUE, Integer.MAX_VALUE}) {
            CHECK.refusedOn("load(" + block + ")", Checks.INDEX, x -> x.load(block), () -> smallWith("0,0:1"));
            CHECK.refusedOn("load(" + block + ") of no text", Checks.INDEX, x -> x.load(block), () -> smallWith(""));
        }
        CHECK.refusedOn("load(2) of three blocks", Checks.ARGUMENT, x -> x.load(2), Made::rich);
        CHECK.refusedOn("load(3) of three blocks", Checks.INDEX, x -> x.load(3), Made::rich);
        CHECK.refusedUnlessCoded("load(0), not coded", Checks.INDEX, x -> x.load(0));
        CHECK.refusedUnlessCoded("load(-1), not coded", Checks.INDEX, x -> x.load(-1));
        CHECK.says("Throws `IllegalArgumentException` if the buffer does not tell a block as a text,");
        for (String text : new String[] {"", "0", "-", "0,", "0,0", "0,0:g", "-0,0:1", "00,0:1", "0,49:1", "0,00:1",
            "2048,0:1", "-2049,0:1", "0,0:1:", "0,0:1,", "0,0:G", "0:0,1", "0,0:0123456789abcdef"}) {
            CHECK.refusedOn("load(0) of " + text, Checks.ARGUMENT, x -> x.load(0), () -> smallWith(text));
        }
        CHECK.says("or one with another number of codes");
        for (String text : new String[] {"0,0:", "0,0:11", "0,0:0123456789abcde"}) {
            CHECK.refusedOn("load(0) of " + text, Checks.ARGUMENT, x -> x.load(0), () -> smallWith(text));
        }
        codesOfBlocks(33, 16);
        codesOfBlocks(18, 16);
        codesOfBlocks(11, 4);
    }

    /** Of all numbers of codes, only that of the block is taken. */
    private static void codesOfBlocks(int many, int blockSamples) {
        for (int block = 0; block * blockSamples < many; block++) {
            int which = block;
            int codes = Math.min(blockSamples, many - block * blockSamples) - 1;
            for (int told = 0; told <= 15; told++) {
                String text = "1,1:" + "1".repeat(told);
                Checks.Maker maker = () -> {
                    SteppedSamples x = Made.silent(many, blockSamples);
                    Made.type(x, text);
                    return x;
                };
                if (told == codes) {
                    SteppedSamples x = maker.make();
                    CHECK.due("load(" + block + ") of " + text, x.load(block), codes + 1);
                } else {
                    CHECK.refusedOn("load(" + block + ") of " + text, Checks.ARGUMENT, x -> x.load(which), maker);
                }
            }
        }
    }

    // ---- promise 14

    private static void write() {
        CHECK.of(14);
        CHECK.says("Writes a block as a text into the buffer,");
        written("0,0:7", Made.small(), 0);
        written("50,8:2", Made.small(), 1);
        SteppedSamples lost = Made.small();
        lost.spoil(1, 3);
        lost.lose(0);
        written("0,0:f", lost, 0);
        String[] texts = {"-2048,48:0", "2047,10:a", "-1000,9:9", "1005,40:f", "-9,0:b", "90,1:c", "600,30:d", "10,8:e",
            "100,9:7", "1000,11:6", "-1,0:5", "99,47:4", "999,20:3"};
        for (String text : texts) {
            SteppedSamples x = smallWith(text);
            x.load(0);
            written(text, x, 0);
        }
        written("0,0:", Made.silent(1, 2), 0);
        SteppedSamples longest = Made.silent(16, 16);
        Made.type(longest, "-1234,20:0123456789abcde");
        longest.load(0);
        written("-1234,20:0123456789abcde", longest, 0);
        CHECK.leavesStatesIfCoded("write(0)", x -> x.write(0));
        SteppedSamples again = Made.rich();
        again.write(0);
        CHECK.due("load(0) of what was written", again.load(0), 0);
        CHECK.says("in place of what was there.");
        SteppedSamples x = smallWith("_".repeat(40));
        x.write(0);
        CHECK.holds("the buffer", Made.holds(x, "0,0:7"));
        x.write(1);
        CHECK.holds("the buffer written again", Made.holds(x, "50,8:2"));
        CHECK.says("`block`: its number");
        SteppedSamples each = Made.codedBy(2, -1, -1, 22, 22, 333, 333, 4);
        written("-1,0:0", each, 0);
        written("22,0:0", each, 1);
        written("333,0:0", each, 2);
        written("4,0:", each, 3);
    }

    private static void written(String text, SteppedSamples x, int block) {
        CHECK.due("write(" + block + ") of " + text, x.write(block), text.length());
        CHECK.holds("the text " + text, Made.holds(x, text));
    }

    private static void writeRefuses() {
        CHECK.says("Returns the length of the buffer then.");
        CHECK.due("write(0)", Made.small().write(0), 5);
        CHECK.due("write(1)", Made.small().write(1), 6);
        CHECK.due("write(0) over a full buffer", smallWith("_".repeat(40)).write(0), 5);
        SteppedSamples x = Made.small();
        x.write(1);
        CHECK.due("clearBuffer() behind it", x.clearBuffer(), 6);
        CHECK.due("the longest one", longestWritten(), 24);
        CHECK.says("Throws `IndexOutOfBoundsException` if there is no such block (also if the wave is not coded)");
        CHECK.rangeIfCoded("write()", Checks.INDEX, 0, 2, SteppedSamples::write);
        for (int[] one : new int[][] {{1, 2, 1}, {64, 2, 32}, {64, 16, 4}, {33, 8, 5}}) {
            CHECK.rangeOn("write() of " + one[2], Checks.INDEX, 0, one[2] - 1, SteppedSamples::write,
                () -> Made.silent(one[0], one[1]));
        }
        CHECK.refusedUnlessCoded("write(0), not coded", Checks.INDEX, y -> y.write(0));
        CHECK.refusedUnlessCoded("write(1), not coded", Checks.INDEX, y -> y.write(1));
    }

    private static int longestWritten() {
        SteppedSamples x = Made.silent(16, 16);
        Made.type(x, "-2048,48:fffffffffffffff");
        x.load(0);
        return x.write(0);
    }
}
