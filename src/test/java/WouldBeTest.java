/** Promises 23 to 29. */
public final class WouldBeTest {
    private static final Checks CHECK = new Checks("WouldBeTest");

    public static void main(String[] args) {
        promise23();
        promise23Refuses();
        promise24();
        promise25();
        promise26();
        promise27();
        promise28();
        promise29();
        promise29List();
        changesNothing();
        CHECK.end();
    }

    private static void coded(int guess, int number, int value, int code, int next, int nextNumber) {
        SteppedSamples x = new SteppedSamples();
        String what = "ifCoded(" + guess + ", " + number + ", " + value + ")";
        CHECK.due(what + " code", x.ifCoded(guess, number, value, 0), code);
        CHECK.due(what + " guess", x.ifCoded(guess, number, value, 1), next + 10000);
        CHECK.due(what + " number", x.ifCoded(guess, number, value, 2), nextNumber);
    }

    private static void promise23() {
        // The step 8 is 20: its half 10, its quarter 5, its eighth 2.
        coded(0, 8, 0, 0, 2, 7);
        coded(0, 8, 4, 0, 2, 7);
        coded(0, 8, 5, 1, 7, 7);
        coded(0, 8, 9, 1, 7, 7);
        coded(0, 8, 10, 2, 12, 7);
        coded(0, 8, 15, 3, 17, 7);
        coded(0, 8, 19, 3, 17, 7);
        coded(0, 8, 20, 4, 22, 10);
        coded(0, 8, 25, 5, 27, 12);
        coded(0, 8, 30, 6, 32, 14);
        coded(0, 8, 35, 7, 37, 16);
        coded(0, 8, 2047, 7, 37, 16);
        coded(0, 8, -1, 8, -2, 7);
        coded(0, 8, -5, 9, -7, 7);
        coded(0, 8, -35, 15, -37, 16);
        // The step 0 is 7: its half 3, its quarter 1, its eighth 0.
        coded(5, 0, 5, 0, 5, 0);
        coded(5, 0, 6, 1, 6, 0);
        coded(5, 0, 8, 2, 8, 0);
        coded(5, 0, 9, 3, 9, 0);
        coded(5, 0, -2, 12, -2, 2);
        // The step 1 is 8, and the numbers end at 48.
        coded(0, 1, 0, 0, 1, 0);
        coded(0, 47, 2047, 7, 1984, 48);
        coded(0, 48, 1165, 4, 1310, 48);
        coded(0, 48, 0, 0, 145, 47);
        coded(2047, 48, 2047, 0, 2047, 47);
        coded(-2000, 48, -2048, 8, -2048, 47);
        coded(-2048, 48, 2047, 7, 135, 48);
    }

    private static void promise23Refuses() {
        SteppedSamples x = Checks.small();
        for (int value : new int[] {-2049, 2048, Integer.MIN_VALUE, Integer.MAX_VALUE}) {
            CHECK.refused("guess " + value, x, Checks.ARGUMENT, () -> x.ifCoded(value, 0, 0, 0));
            CHECK.refused("value " + value, x, Checks.ARGUMENT, () -> x.ifCoded(0, 0, value, 0));
        }
        for (int number : new int[] {-1, 49, Integer.MIN_VALUE, Integer.MAX_VALUE}) {
            CHECK.refused("number " + number, x, Checks.ARGUMENT, () -> x.ifCoded(0, number, 0, 0));
        }
        for (int what : new int[] {-1, 3, Integer.MIN_VALUE, Integer.MAX_VALUE}) {
            CHECK.refused("what " + what, x, Checks.ARGUMENT, () -> x.ifCoded(0, 0, 0, what));
        }
    }

    private static void promise24() {
        SteppedSamples x = Checks.small();
        CHECK.due("ifBlock(0, 2, 0)", x.ifBlock(0, 2, 0), 7921);
        CHECK.due("ifBlock(2, 2, 8)", x.ifBlock(2, 2, 8), 4);
        CHECK.due("ifBlock(3, 1, 48)", x.ifBlock(3, 1, 48), 0);
        // 11 for 100, to the step 8 (20); 11 + 2 + 20 + 10 + 5 for 50, to the step 16 (50); 48 + 6 + 12 for 60.
        CHECK.due("ifBlock(0, 4, 0)", x.ifBlock(0, 4, 0), 7921 + 2 * 2 + 6 * 6);
        x.set(0, 2);
        CHECK.due("ifBlock(2, 2, 8), not coded", x.ifBlock(2, 2, 8), 4);
        int[][] wrongOnes = {{0, 0}, {0, -1}, {-1, 1}, {-1, 2}, {4, 1}, {0, 5}, {3, 2}, {1, Integer.MAX_VALUE},
            {Integer.MAX_VALUE, 1}, {Integer.MAX_VALUE, Integer.MAX_VALUE}, {Integer.MIN_VALUE, Integer.MIN_VALUE},
            {0, Integer.MIN_VALUE}, {Integer.MIN_VALUE, Integer.MAX_VALUE}, {64, 1}};
        for (int[] one : wrongOnes) {
            CHECK.refused("ifBlock(" + one[0] + ", " + one[1] + ")", x, Checks.INDEX, () -> x.ifBlock(one[0], one[1], 0));
            CHECK.refused("ifBlock, both wrong", x, Checks.INDEX, () -> x.ifBlock(one[0], one[1], 49));
        }
        for (int number : new int[] {-1, 49, Integer.MIN_VALUE, Integer.MAX_VALUE}) {
            CHECK.refused("ifBlock number " + number, x, Checks.ARGUMENT, () -> x.ifBlock(0, 4, number));
        }
        SteppedSamples wide = new SteppedSamples();
        wide.wave(64);
        wide.add(0, 2047, 2);
        CHECK.due("ifBlock of a long and loud wave", wide.ifBlock(0, 64, 0) > 0 ? 1 : 0, 1);
    }

    private static void promise25() {
        SteppedSamples x = new SteppedSamples();
        x.add(2, 900, 13);
        x.add(0, 150, 5);
        for (int first = 0; first < 32; first += 5) {
            for (int many = 1; first + many <= 32; many += 3) {
                int best = x.bestStep(first, many);
                for (int number = 0; number <= 48; number++) {
                    boolean worse = number < best ? x.ifBlock(first, many, number) > x.ifBlock(first, many, best)
                        : x.ifBlock(first, many, number) >= x.ifBlock(first, many, best);
                    CHECK.due("bestStep against " + number, worse ? 1 : 0, 1);
                }
            }
        }
        CHECK.due("bestStep of one sample", x.bestStep(31, 1), 0);
        CHECK.due("bestStep of a far one", Checks.waveOf(0, 2047).bestStep(0, 2), 48);
        // The steps 0 and 2 make just 10 of the 10; the step 1 makes 11.
        CHECK.due("bestStep of several", Checks.waveOf(50, 60).bestStep(0, 2), 0);
        int[][] wrongOnes = {{0, 0}, {0, -1}, {-1, 1}, {32, 1}, {0, 33}, {31, 2}, {1, Integer.MAX_VALUE},
            {Integer.MAX_VALUE, 1}, {Integer.MIN_VALUE, Integer.MIN_VALUE}};
        for (int[] one : wrongOnes) {
            CHECK.refused("bestStep(" + one[0] + ", " + one[1] + ")", x, Checks.INDEX, () -> x.bestStep(one[0], one[1]));
        }
    }

    private static void promise26() {
        SteppedSamples x = Checks.small();
        CHECK.due("ifSpoiled(1, 3)", x.ifSpoiled(1, 3), 1);
        x.lose(1);
        CHECK.due("ifSpoiled(1, 3) before a lost block", x.ifSpoiled(1, 3), 3);
        CHECK.due("ifSpoiled(3, 3) in a lost block", x.ifSpoiled(3, 3), 0);
        x.set(2, 2);
        CHECK.due("ifSpoiled(1, 3), filled by samples", x.ifSpoiled(1, 3), 2);
        x.set(2, 1);
        CHECK.due("ifSpoiled(1, 3), filled with 0", x.ifSpoiled(1, 3), 1);
        SteppedSamples silent = new SteppedSamples();
        silent.code();
        CHECK.due("the sign of nothing", silent.ifSpoiled(9, 3), 0);
        CHECK.due("the bit 1 of nothing", silent.ifSpoiled(1, 0), 7);
        CHECK.due("it turned nothing over", silent.count(10), 0);
        CHECK.due("the code stays", silent.sampleOf(1, 3), 0);
        for (int sample : new int[] {-1, 0, 2, 4, 64, Integer.MIN_VALUE, Integer.MAX_VALUE}) {
            CHECK.refused("ifSpoiled(" + sample + ", 0)", x, Checks.INDEX, () -> x.ifSpoiled(sample, 0));
            CHECK.refused("ifSpoiled(" + sample + ", 4)", x, Checks.INDEX, () -> x.ifSpoiled(sample, 4));
        }
        for (int bit : new int[] {-1, 4, 32, Integer.MIN_VALUE, Integer.MAX_VALUE}) {
            CHECK.refused("ifSpoiled(1, " + bit + ")", x, Checks.ARGUMENT, () -> x.ifSpoiled(1, bit));
        }
        x.wave(4);
        CHECK.refused("ifSpoiled(1, 0) not coded", x, Checks.INDEX, () -> x.ifSpoiled(1, 0));
    }

    private static void promise27() {
        SteppedSamples x = Checks.small();
        CHECK.dueDouble("meanSquare()", x.meanSquare(), 1981.25);
        x.lose(1);
        CHECK.dueDouble("meanSquare() with a lost block", x.meanSquare(), (7921 + 39 * 39 + 49 * 49) / 4.0);
        x.set(1, 0);
        CHECK.dueDouble("meanSquare(), not coded", x.meanSquare(), 0.0);
        SteppedSamples third = Checks.waveOf(0, 100, 0);
        third.code();
        CHECK.dueDouble("meanSquare() of three", third.meanSquare(), third.count(4) / 3.0);
    }

    private static void promise28() {
        SteppedSamples x = Checks.small();
        CHECK.dueDouble("loudness()", x.loudness(), 16100f / 7925f);
        x.set(1, 0);
        CHECK.dueDouble("loudness(), not coded", x.loudness(), 0.0f);
        SteppedSamples silent = new SteppedSamples();
        CHECK.dueDouble("loudness(), silent, not coded", silent.loudness(), 0.0f);
        silent.code();
        CHECK.dueDouble("loudness(), silent", silent.loudness(), -1.0f);
        Checks.type(silent, "5,0:0000000");
        silent.load(0);
        CHECK.dueDouble("loudness(), silent and wrong", silent.loudness(), 0.0f);
        SteppedSamples just = Checks.waveOf(40, 40);
        just.code();
        CHECK.dueDouble("loudness(), no error", just.loudness(), -1.0f);
        SteppedSamples loud = new SteppedSamples();
        loud.wave(64);
        loud.add(0, 2047, 9);
        loud.add(1, 33, 7);
        loud.code();
        long squares = 0;
        for (int k = 0; k < 64; k++) {
            long value = loud.sampleOf(k, 0) - 10000;
            squares += value * value;
        }
        CHECK.dueDouble("loudness(), loud", loud.loudness(), (float) squares / (float) loud.count(4));
    }

    private static void promise29() {
        SteppedSamples x = new SteppedSamples();
        CHECK.due("digest(), new", x.digest(), digestOf(x, false, false, ""));
        x.keep(1);
        CHECK.due("digest(), kept", x.digest(), digestOf(x, false, true, ""));
        x.code();
        CHECK.due("digest(), silent", x.digest(), digestOf(x, false, true, ""));
        Checks.type(x, "12,~");
        x.keep(0);
        CHECK.due("digest(), with a buffer", x.digest(), digestOf(x, true, true, "12,~"));
        SteppedSamples small = Checks.small();
        CHECK.due("digest(), small", small.digest(), digestOf(small, false, false, ""));
        small.lose(1);
        CHECK.due("digest(), lost", small.digest(), digestOf(small, false, false, ""));
        for (int kind = 0; kind < 3; kind++) {
            for (int many = 1; many <= 64; many += 7) {
                SteppedSamples any = new SteppedSamples();
                any.wave(many);
                any.add(kind, 1999, 1 + many / 2);
                any.add(0, 97, 3);
                any.set(0, 2 + many % 15);
                any.code();
                CHECK.due("digest(), " + kind + " " + many, any.digest(), digestOf(any, false, false, ""));
            }
        }
    }

    private static void promise29List() {
        long hash = 3329;
        long[] list = {1, 0, 0, 0, 0, 0, 0, 0, 0, 0, 0, 1, 8, 0, 0, 10000, -1, -1, -1, -1, -1, 0, 0, 0, 0, 0, 0};
        for (long value : list) {
            hash = 31 * hash + value;
        }
        SteppedSamples x = new SteppedSamples();
        x.wave(1);
        CHECK.due("digest() by hand", x.digest(), hash);
    }

    private static long digestOf(SteppedSamples x, boolean slot0, boolean slot1, String buffer) {
        java.util.List<Long> list = new java.util.ArrayList<>();
        for (int what = 0; what <= 11; what++) {
            list.add((long) x.count(what));
        }
        for (int setting = 0; setting <= 2; setting++) {
            list.add((long) x.setting(setting));
        }
        for (int sample = 0; sample < x.count(0); sample++) {
            for (int what = 0; what <= 5; what++) {
                list.add((long) x.sampleOf(sample, what));
            }
        }
        for (int block = 0; block < x.count(2); block++) {
            for (int what = 0; what <= 5; what++) {
                list.add((long) x.blockOf(block, what));
            }
        }
        list.add((long) x.bestStep(0, x.count(0)));
        for (int sample = 0; sample < x.count(0); sample++) {
            if (x.sampleOf(sample, 3) != -1) {
                list.add((long) x.ifSpoiled(sample, 3));
            }
        }
        list.add(Double.doubleToLongBits(x.meanSquare()));
        list.add((long) Float.floatToIntBits(x.loudness()));
        list.add(slot0 ? 1L : 0L);
        list.add(slot1 ? 1L : 0L);
        list.add((long) buffer.length());
        for (char sign : buffer.toCharArray()) {
            list.add((long) sign);
        }
        long hash = 3329;
        for (long value : list) {
            hash = 31 * hash + value;
        }
        return hash;
    }

    private static void changesNothing() {
        SteppedSamples x = Checks.small();
        x.lose(1);
        x.keep(0);
        Checks.type(x, "5,5");
        long before = x.digest();
        x.ifCoded(1, 2, 3, 0);
        x.ifBlock(0, 4, 9);
        x.bestStep(0, 4);
        x.ifSpoiled(1, 2);
        x.meanSquare();
        x.loudness();
        CHECK.due("digest behind what would be", x.digest(), before);
    }
}
