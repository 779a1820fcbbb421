/** Promises 1 to 6. */
public final class WavesTest {
    private static final Checks CHECK = new Checks("WavesTest");

    public static void main(String[] args) {
        promise1();
        promise2();
        promise3();
        promise4Shapes();
        promise4Clips();
        promise4Refuses();
        promise5();
        promise6();
        CHECK.end();
    }

    private static void promise1() {
        SteppedSamples x = new SteppedSamples();
        CHECK.due("new count(0)", x.count(0), 32);
        for (int what = 1; what < 12; what++) {
            CHECK.due("new count(" + what + ")", x.count(what), 0);
        }
        for (int sample = 0; sample < 32; sample++) {
            CHECK.due("new sampleOf(" + sample + ", 0)", x.sampleOf(sample, 0), 10000);
            CHECK.due("new sampleOf(" + sample + ", 1)", x.sampleOf(sample, 1), -1);
        }
        CHECK.due("new setting(0)", x.setting(0), 8);
        CHECK.due("new setting(1)", x.setting(1), 0);
        CHECK.due("new setting(2)", x.setting(2), 0);
        CHECK.refused("new goBack(0)", x, Checks.STATE, () -> x.goBack(0));
        CHECK.refused("new goBack(1)", x, Checks.STATE, () -> x.goBack(1));
        CHECK.refused("new undo()", x, Checks.STATE, () -> x.undo());
        CHECK.due("new clearBuffer()", x.clearBuffer(), 0);
        CHECK.due("NONE", SteppedSamples.NONE, -1);
    }

    private static void promise2() {
        SteppedSamples x = new SteppedSamples();
        x.set(0, 3);
        x.sample(0, 78);
        x.sample(5, 77);
        x.code();
        CHECK.due("wave(64)", x.wave(64), 32);
        CHECK.due("count(1) behind wave", x.count(1), 0);
        CHECK.due("setting(0) behind wave", x.setting(0), 3);
        for (int sample = 0; sample < 64; sample++) {
            CHECK.due("silent sample " + sample, x.sampleOf(sample, 0), 10000);
        }
        x.sample(63, 9);
        CHECK.due("wave(1)", x.wave(1), 64);
        CHECK.due("wave(64) again", x.wave(64), 1);
        CHECK.due("sample 63 anew", x.sampleOf(63, 0), 10000);
        x.code();
        x.wave(64);
        CHECK.due("count(1) behind a wave as long", x.count(1), 0);
        for (int many : new int[] {0, -1, 65, -64, Integer.MIN_VALUE, Integer.MAX_VALUE}) {
            CHECK.refused("wave(" + many + ")", x, Checks.ARGUMENT, () -> x.wave(many));
        }
        SteppedSamples small = Checks.small();
        CHECK.undoable("wave(4)", small, () -> small.wave(4));
        CHECK.undoable("wave(7)", small, () -> small.wave(7));
    }

    private static void promise3() {
        SteppedSamples x = new SteppedSamples();
        CHECK.due("sample(31, -2048)", x.sample(31, -2048), 10000);
        CHECK.due("sample(31, 2047)", x.sample(31, 2047), 7952);
        CHECK.due("sample(31, 0)", x.sample(31, 0), 12047);
        CHECK.due("sample(0, 5)", x.sample(0, 5), 10000);
        CHECK.due("sampleOf(0, 0)", x.sampleOf(0, 0), 10005);
        CHECK.due("sampleOf(1, 0)", x.sampleOf(1, 0), 10000);
        x.code();
        x.sample(0, 5);
        CHECK.due("count(1) behind the same value", x.count(1), 0);
        for (int sample : new int[] {-1, 32, 63, 64, Integer.MIN_VALUE, Integer.MAX_VALUE}) {
            CHECK.refused("sample(" + sample + ", 0)", x, Checks.INDEX, () -> x.sample(sample, 0));
            CHECK.refused("sample(" + sample + ", 2048)", x, Checks.INDEX, () -> x.sample(sample, 2048));
        }
        for (int value : new int[] {-2049, 2048, Integer.MIN_VALUE, Integer.MAX_VALUE}) {
            CHECK.refused("sample(0, " + value + ")", x, Checks.ARGUMENT, () -> x.sample(0, value));
        }
        SteppedSamples small = Checks.small();
        CHECK.undoable("sample(3, 60)", small, () -> small.sample(3, 60));
        CHECK.undoable("sample(3, 61)", small, () -> small.sample(3, 61));
    }

    private static void promise4Shapes() {
        shape("even square", 0, 100, 4, 100, 100, -100, -100, 100);
        shape("odd square", 0, 100, 5, 100, 100, 100, -100, -100, 100);
        shape("square of period 1", 0, 9, 1, 9, 9, 9);
        shape("saw", 1, 100, 3, -100, -33, 33, -100);
        shape("saw of period 1", 1, 100, 1, -100, -100);
        shape("odd triangle", 2, 99, 5, 59, -19, -99, -19, 59, 59);
        shape("even triangle", 2, 100, 6, 100, 33, -33, -100, -33, 33, 100);
        shape("triangle of period 1", 2, 100, 1, -100, -100);
        shape("triangle of period 3", 2, 100, 3, 33, -100, 33, 33);
        shape("longest saw", 1, 2047, 64, -2047, -1983, -1919);
        shape("longest triangle", 2, 2047, 64, 2047, 1919);
        shape("flat", 0, 0, 64, 0, 0, 0);
    }

    private static void shape(String what, int kind, int height, int period, int... values) {
        SteppedSamples x = new SteppedSamples();
        CHECK.due(what + " clips", x.add(kind, height, period), 0);
        int[] want = new int[values.length];
        for (int k = 0; k < values.length; k++) {
            want[k] = values[k] + 10000;
        }
        CHECK.samples(what, x, 0, want);
        CHECK.due(what + " at the end", x.sampleOf(31, 0), x.sampleOf(31 % period, 0));
    }

    private static void promise4Clips() {
        SteppedSamples x = Checks.waveOf(1, 0, -1, -2, 2047);
        CHECK.due("add(0, 2047, 4)", x.add(0, 2047, 4), 3);
        CHECK.samples("clipped", x, 0, 12047, 12047, 7952, 7952, 12047);
        CHECK.due("add(0, 0, 4)", x.add(0, 0, 4), 0);
        x.code();
        x.add(0, 0, 4);
        CHECK.due("count(1) behind add of nothing", x.count(1), 0);
        SteppedSamples small = Checks.small();
        CHECK.undoable("add(2, 50, 3)", small, () -> small.add(2, 50, 3));
        CHECK.undoable("add(0, 0, 1)", small, () -> small.add(0, 0, 1));
    }

    private static void promise4Refuses() {
        SteppedSamples x = Checks.small();
        for (int far : new int[] {-1, Integer.MIN_VALUE, Integer.MAX_VALUE}) {
            CHECK.refused("add kind " + far, x, Checks.ARGUMENT, () -> x.add(far, 1, 1));
            CHECK.refused("add height " + far, x, Checks.ARGUMENT, () -> x.add(0, far, 1));
            CHECK.refused("add period " + far, x, Checks.ARGUMENT, () -> x.add(0, 1, far));
        }
        CHECK.refused("add kind 3", x, Checks.ARGUMENT, () -> x.add(3, 1, 1));
        CHECK.refused("add height 2048", x, Checks.ARGUMENT, () -> x.add(1, 2048, 1));
        CHECK.refused("add period 0", x, Checks.ARGUMENT, () -> x.add(1, 1, 0));
        CHECK.refused("add period 65", x, Checks.ARGUMENT, () -> x.add(2, 1, 65));
    }

    private static void promise5() {
        SteppedSamples x = Checks.small();
        CHECK.undoable("take()", x, () -> x.take());
        CHECK.due("take()", x.take(), 2);
        CHECK.samples("taken", x, 0, 10000, 10011, 10050, 10062);
        CHECK.due("count(1) behind take", x.count(1), 0);
        CHECK.refused("take() again", x, Checks.STATE, () -> x.take());
        x.code();
        CHECK.due("take() of what was made", x.take(), 0);
        SteppedSamples lossy = Checks.small();
        lossy.set(2, 1);
        lossy.lose(1);
        CHECK.due("take() with a lost block", lossy.take(), 3);
        CHECK.samples("taken with a lost block", lossy, 0, 10000, 10011, 10000, 10000);
        SteppedSamples fresh = new SteppedSamples();
        CHECK.refused("new take()", fresh, Checks.STATE, () -> fresh.take());
    }

    private static void promise6() {
        SteppedSamples x = new SteppedSamples();
        CHECK.due("set(0, 2)", x.set(0, 2), 8);
        CHECK.due("set(0, 16)", x.set(0, 16), 2);
        CHECK.due("set(1, 1)", x.set(1, 1), 0);
        CHECK.due("set(1, 0)", x.set(1, 0), 1);
        CHECK.due("set(2, 2)", x.set(2, 2), 0);
        CHECK.due("set(2, 1)", x.set(2, 1), 2);
        CHECK.due("setting(0)", x.setting(0), 16);
        x.code();
        x.set(2, 0);
        CHECK.due("count(1) behind set(2, 0)", x.count(1), 1);
        x.set(0, 16);
        CHECK.due("count(1) behind set(0, 16)", x.count(1), 0);
        x.code();
        x.set(1, 0);
        CHECK.due("count(1) behind set(1, 0)", x.count(1), 0);
        x.code();
        for (int setting : new int[] {-1, 3, Integer.MIN_VALUE, Integer.MAX_VALUE}) {
            CHECK.refused("set(" + setting + ", 2)", x, Checks.INDEX, () -> x.set(setting, 2));
            CHECK.refused("set(" + setting + ", -9)", x, Checks.INDEX, () -> x.set(setting, -9));
        }
        int[][] wrongOnes = {{0, 1}, {0, 17}, {0, 0}, {1, -1}, {1, 2}, {2, -1}, {2, 3}};
        for (int[] one : wrongOnes) {
            CHECK.refused("set(" + one[0] + ", " + one[1] + ")", x, Checks.ARGUMENT, () -> x.set(one[0], one[1]));
        }
        for (int setting = 0; setting < 3; setting++) {
            int which = setting;
            for (int far : Checks.FAR_OUT) {
                CHECK.refused("set(" + which + ", " + far + ")", x, Checks.ARGUMENT, () -> x.set(which, far));
            }
            CHECK.undoable("set(" + which + ")", x, () -> x.set(which, x.setting(which)));
        }
        SteppedSamples small = Checks.small();
        CHECK.undoable("set(0, 3)", small, () -> small.set(0, 3));
    }
}
