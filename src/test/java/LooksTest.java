/** Promises 18 to 22. */
public final class LooksTest {
    private static final Checks CHECK = new Checks("LooksTest");

    public static void main(String[] args) {
        promise18();
        promise19();
        promise19Lost();
        promise20();
        promise21();
        promise21Lost();
        promise22();
        changesNothing();
        CHECK.end();
    }

    private static void promise18() {
        SteppedSamples x = new SteppedSamples();
        int step = 7;
        for (int number = 0; number <= 48; number++) {
            CHECK.due("step(" + number + ")", x.step(number), step);
            step += step / 10 + 1;
        }
        CHECK.due("step(4)", x.step(4), 12);
        for (int number : new int[] {-1, 49, 64, Integer.MIN_VALUE, Integer.MAX_VALUE}) {
            CHECK.refused("step(" + number + ")", x, Checks.INDEX, () -> x.step(number));
        }
    }

    private static void promise19() {
        SteppedSamples x = Checks.small();
        CHECK.samples("values", x, 0, 10000, 10100, 10050, 10060);
        CHECK.samples("made", x, 1, 10000, 10011, 10050, 10062);
        CHECK.samples("guesses", x, 2, 10000, 10011, 10050, 10062);
        CHECK.samples("codes", x, 3, -1, 7, -1, 2);
        CHECK.samples("numbers", x, 4, 0, 8, 8, 7);
        CHECK.samples("differences", x, 5, 10000, 10089, 10000, 9998);
        for (int sample : new int[] {-1, 4, 63, 64, Integer.MIN_VALUE, Integer.MAX_VALUE}) {
            CHECK.refused("sampleOf(" + sample + ", 0)", x, Checks.INDEX, () -> x.sampleOf(sample, 0));
            CHECK.refused("sampleOf(" + sample + ", 6)", x, Checks.INDEX, () -> x.sampleOf(sample, 6));
        }
        for (int what : new int[] {-1, 6, Integer.MIN_VALUE, Integer.MAX_VALUE}) {
            CHECK.refused("sampleOf(0, " + what + ")", x, Checks.ARGUMENT, () -> x.sampleOf(0, what));
        }
        x.set(0, 2);
        CHECK.samples("values, not coded", x, 0, 10000, 10100, 10050, 10060);
        for (int what = 1; what < 6; what++) {
            CHECK.samples("property " + what + ", not coded", x, what, -1, -1, -1, -1);
        }
        CHECK.refused("sampleOf(0, 6), not coded", x, Checks.ARGUMENT, () -> x.sampleOf(0, 6));
    }

    private static void promise19Lost() {
        SteppedSamples x = Checks.small();
        x.lose(1);
        CHECK.samples("made", x, 1, 10000, 10011, 10011, 10011);
        CHECK.samples("guesses", x, 2, 10000, 10011, 10050, 10062);
        CHECK.samples("codes", x, 3, -1, 7, -1, 2);
        CHECK.samples("numbers", x, 4, 0, 8, -1, -1);
        CHECK.samples("differences", x, 5, 10000, 10089, 10039, 10049);
    }

    private static void promise20() {
        SteppedSamples x = Checks.small();
        block("block 0", x, 0, 2, 10000, 0, 0, 7921, 8);
        block("block 1", x, 1, 2, 10050, 8, 0, 4, 7);
        x.lose(1);
        block("block 1 lost", x, 1, 2, 10050, 8, 1, 39 * 39 + 49 * 49, 7);
        x.spoil(3, 2);
        block("block 1 lost and spoiled", x, 1, 2, 10050, 8, 1, 39 * 39 + 49 * 49, 14);
        block("block 0 before it", x, 0, 2, 10000, 0, 0, 7921, 8);
        SteppedSamples odd = Checks.waveOf(1, 2, -3);
        odd.set(0, 2);
        odd.code();
        block("a block of one sample", odd, 1, 1, 9997, odd.blockOf(0, 5), 0, 0, odd.blockOf(0, 5));
        for (int block : new int[] {-1, 2, 32, Integer.MIN_VALUE, Integer.MAX_VALUE}) {
            CHECK.refused("blockOf(" + block + ", 0)", x, Checks.INDEX, () -> x.blockOf(block, 0));
            CHECK.refused("blockOf(" + block + ", 6)", x, Checks.INDEX, () -> x.blockOf(block, 6));
        }
        for (int what : new int[] {-1, 6, Integer.MIN_VALUE, Integer.MAX_VALUE}) {
            CHECK.refused("blockOf(0, " + what + ")", x, Checks.ARGUMENT, () -> x.blockOf(0, what));
        }
        x.add(0, 0, 1);
        CHECK.refused("blockOf(0, 0) not coded", x, Checks.INDEX, () -> x.blockOf(0, 0));
    }

    private static void block(String what, SteppedSamples x, int block, int... want) {
        for (int property = 0; property < 6; property++) {
            CHECK.due(what + ", property " + property, x.blockOf(block, property), want[property]);
        }
    }

    private static void promise21() {
        SteppedSamples x = Checks.small();
        counts("small", x, 4, 1, 2, 0, 7925, 7925, 89, 2, 44, 1, 0, 6);
        x.spoil(1, 3);
        counts("spoiled", x, 4, 1, 2, 0, 111 * 111 + 4, 111 * 111 + 4, 111, 2, 44, 1, 1, 6);
        x.undo();
        counts("spoiled and undone", x, 4, 1, 2, 0, 7925, 7925, 89, 2, 44, 1, 0, 5);
        Checks.type(x, "1,0:7");
        x.load(0);
        counts("loaded", x, 4, 1, 2, 0, 1 + 88 * 88 + 4, 1 + 88 * 88 + 4, 88, 1, 44, 1, 0, 6);
        x.wave(3);
        counts("not coded", x, 3, 0, 0, 0, 0, 0, 0, 0, 0, 1, 0, 6);
        x.code();
        counts("silent", x, 3, 1, 2, 0, 0, 0, 0, 3, 40, 2, 0, 6);
        for (int what : new int[] {-1, 12, Integer.MIN_VALUE, Integer.MAX_VALUE}) {
            CHECK.refused("count(" + what + ")", x, Checks.ARGUMENT, () -> x.count(what));
        }
    }

    private static void promise21Lost() {
        SteppedSamples x = Checks.small();
        x.lose(1);
        int error = 7921 + 39 * 39 + 49 * 49;
        counts("lost", x, 4, 1, 2, 1, error, error, 89, 1, 44, 1, 0, 6);
        x.add(0, 0, 1);
        CHECK.due("lost blocks, not coded", x.count(3), 0);
        SteppedSamples far = Checks.waveOf(2047, -2048);
        far.set(0, 2);
        far.code();
        CHECK.due("greatest difference below", far.count(6), 2047 - 11 + 2048);
    }

    private static void counts(String what, SteppedSamples x, int... want) {
        for (int number = 0; number < 12; number++) {
            CHECK.due(what + ", count " + number, x.count(number), want[number]);
        }
    }

    private static void promise22() {
        SteppedSamples x = new SteppedSamples();
        x.set(0, 11);
        x.set(1, 1);
        x.set(2, 2);
        CHECK.due("setting(0)", x.setting(0), 11);
        CHECK.due("setting(1)", x.setting(1), 1);
        CHECK.due("setting(2)", x.setting(2), 2);
        for (int setting : new int[] {-1, 3, Integer.MIN_VALUE, Integer.MAX_VALUE}) {
            CHECK.refused("setting(" + setting + ")", x, Checks.INDEX, () -> x.setting(setting));
        }
    }

    private static void changesNothing() {
        SteppedSamples x = Checks.small();
        x.lose(0);
        long before = Checks.stateOf(x);
        int saved = x.count(11);
        x.step(3);
        x.setting(0);
        CHECK.due("state behind looks", Checks.stateOf(x), before);
        CHECK.due("saved states behind looks", x.count(11), saved);
    }
}
