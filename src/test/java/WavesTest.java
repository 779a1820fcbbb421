/** Promises 1 to 6. */
public final class WavesTest {
    private static final Checks CHECK = new Checks("WavesTest");

    public static void main(String[] args) {
        newObject();
        wave();
        sample();
        addShapes();
        addArguments();
        addAnswers();
        take();
        set();
        setRefuses();
        CHECK.end();
    }

    // ---- promise 1

    private static void newObject() {
        CHECK.of(1);
        SteppedSamples x = new SteppedSamples();
        CHECK.says("Creates a wave of 32 samples of 0,");
        CHECK.due("count(0)", x.count(0), 32);
        for (int sample = 0; sample < 32; sample++) {
            CHECK.due("sampleOf(" + sample + ", 0)", x.sampleOf(sample, 0), 10000);
        }
        CHECK.rangeOn("sampleOf(.., 0)", Checks.INDEX, 0, 31, (y, sample) -> y.sampleOf(sample, 0), Made::fresh);
        CHECK.says("not coded,");
        for (int what = 1; what < 12; what++) {
            CHECK.due("count(" + what + ")", x.count(what), 0);
        }
        for (int what = 1; what < 6; what++) {
            CHECK.due("sampleOf(0, " + what + ")", x.sampleOf(0, what), -1);
        }
        CHECK.refusedOn("blockOf(0, 0)", Checks.INDEX, y -> y.blockOf(0, 0), Made::fresh);
        CHECK.says("with empty slots");
        CHECK.refusedOn("goBack(0)", Checks.STATE, y -> y.goBack(0), Made::fresh);
        CHECK.refusedOn("goBack(1)", Checks.STATE, y -> y.goBack(1), Made::fresh);
        CHECK.says("and an empty buffer.");
        CHECK.due("firstError()", new SteppedSamples().firstError(), 0);
        CHECK.due("clearBuffer()", new SteppedSamples().clearBuffer(), 0);
        CHECK.due("append(48)", new SteppedSamples().append(48), 1);
    }

    // ---- promise 2

    private static void wave() {
        CHECK.of(2);
        CHECK.says("Takes a wave of so many samples, all 0.");
        for (int many : new int[] {1, 2, 31, 32, 33, 63, 64}) {
            SteppedSamples x = new SteppedSamples();
            x.wave(64);
            x.add(0, 500, 64);
            x.code();
            x.wave(many);
            CHECK.due("count(0)", x.count(0), many);
            CHECK.due("count(1)", x.count(1), 0);
            for (int sample = 0; sample < many; sample++) {
                CHECK.due("sample " + sample, x.sampleOf(sample, 0), 10000);
            }
            CHECK.rangeOn("sampleOf(.., 0) of " + many, Checks.INDEX, 0, many - 1, (y, sample) -> y.sampleOf(sample, 0),
                () -> Made.silent(many, 8));
        }
        SteppedSamples longer = Made.waveOf(1, 2, 3);
        longer.wave(2);
        longer.wave(3);
        CHECK.samples("a wave as long as an earlier one", longer, 0, 10000, 10000, 10000);
        SteppedSamples kept = Made.small();
        kept.set(2, 1);
        kept.wave(9);
        CHECK.due("setting(0) stays", kept.setting(0), 2);
        CHECK.due("setting(2) stays", kept.setting(2), 1);
        CHECK.due("count(9) stays", kept.count(9), 1);
        CHECK.says("Undoable.");
        CHECK.undoable("wave(64)", x -> x.wave(64));
        CHECK.undoable("wave(11)", x -> x.wave(11));
        CHECK.undoable("wave(1)", x -> x.wave(1));
        CHECK.says("`many`: 1 to 64");
        CHECK.due("wave(1)", new SteppedSamples().wave(1), 32);
        CHECK.due("wave(64)", new SteppedSamples().wave(64), 32);
        CHECK.says("Returns how many it had.");
        SteppedSamples x = new SteppedSamples();
        CHECK.due("wave(64)", x.wave(64), 32);
        CHECK.due("wave(64) again", x.wave(64), 64);
        CHECK.due("wave(1)", x.wave(1), 64);
        CHECK.due("wave(17)", x.wave(17), 1);
        CHECK.says("Throws `IllegalArgumentException` if many is out of range");
        CHECK.range("wave()", Checks.ARGUMENT, 1, 64, SteppedSamples::wave);
    }

    // ---- promise 3

    private static void sample() {
        CHECK.of(3);
        CHECK.says("Changes a sample.");
        SteppedSamples x = Made.waveOf(4, 5, 6);
        x.sample(1, -7);
        CHECK.samples("values", x, 0, 10004, 9993, 10006);
        CHECK.due("count(0)", x.count(0), 3);
        x.code();
        x.sample(1, -7);
        CHECK.due("count(1)", x.count(1), 0);
        CHECK.says("Undoable.");
        CHECK.undoable("sample(10, 5)", y -> y.sample(10, 5));
        CHECK.undoableOn("sample(0, 0)", y -> y.sample(0, 0), Made::small, Made::fresh);
        CHECK.says("`sample`: its number");
        for (int many : new int[] {1, 5, 64}) {
            CHECK.rangeOn("sample() of " + many, Checks.INDEX, 0, many - 1, (y, sample) -> y.sample(sample, 3),
                () -> Made.silent(many, 4));
        }
        CHECK.says("`value`: -2048 to 2047");
        SteppedSamples ends = new SteppedSamples();
        ends.sample(0, -2048);
        ends.sample(31, 2047);
        CHECK.due("the least value", ends.sampleOf(0, 0), 7952);
        CHECK.due("the greatest value", ends.sampleOf(31, 0), 12047);
        CHECK.says("Returns the value before, plus 10000.");
        CHECK.due("sample(0, 2047)", ends.sample(0, 2047), 7952);
        CHECK.due("sample(0, 0)", ends.sample(0, 0), 12047);
        CHECK.due("sample(0, 0) again", ends.sample(0, 0), 10000);
        CHECK.due("sample(1, 1)", ends.sample(1, 1), 10000);
        CHECK.says("Throws `IndexOutOfBoundsException` if there is no such sample");
        for (int sample : new int[] {-1, 11, 12, 32, 63, 64}) {
            CHECK.refusedOn("sample(" + sample + ", 0)", Checks.INDEX, y -> y.sample(sample, 0), Made::rich, Made::full);
            CHECK.refusedOn("sample(" + sample + ", 2048)", Checks.INDEX, y -> y.sample(sample, 2048), Made::rich);
        }
        CHECK.refusedOn("sample(32, 0) of a new object", Checks.INDEX, y -> y.sample(32, 0), Made::fresh);
        CHECK.says("Throws `IllegalArgumentException` if value is out of range");
        CHECK.range("sample(0, ..)", Checks.ARGUMENT, -2048, 2047, (y, value) -> y.sample(0, value));
    }

    // ---- promise 4

    /** The first samples of a shape added to a silent wave, and that it goes on so. */
    private static void shape(int kind, int height, int period, int... values) {
        String what = "add(" + kind + ", " + height + ", " + period + ")";
        SteppedSamples x = new SteppedSamples();
        CHECK.due(what, x.add(kind, height, period), 0);
        int[] told = new int[values.length];
        for (int k = 0; k < values.length; k++) {
            told[k] = 10000 + values[k];
        }
        CHECK.samples(what, x, 0, told);
        CHECK.due(what + " at the end", x.sampleOf(31, 0), x.sampleOf(31 % period, 0));
    }

    private static void addShapes() {
        CHECK.of(4);
        CHECK.says("Adds a shape to all samples, each clipped.");
        SteppedSamples x = Made.waveOf(1, 0, -1, -2, 2047);
        x.add(0, 2047, 4);
        CHECK.samples("clipped", x, 0, 12047, 12047, 7952, 7952, 12047);
        SteppedSamples all = new SteppedSamples();
        all.wave(64);
        all.add(0, 3, 1);
        all.add(0, 4, 1);
        for (int sample = 0; sample < 64; sample++) {
            CHECK.due("sample " + sample, all.sampleOf(sample, 0), 10007);
        }
        CHECK.says("The phase of the sample k is k modulo the period, f.");
        shape(1, 300, 3, -300, -100, 100, -300, -100, 100, -300);
        shape(0, 9, 1, 9, 9, 9);
        SteppedSamples whole = new SteppedSamples();
        whole.wave(64);
        whole.add(1, 640, 64);
        CHECK.due("the last phase of 64", whole.sampleOf(63, 0), 10000 + 640 * (126 - 64) / 64);
        SteppedSamples around = new SteppedSamples();
        around.wave(64);
        around.add(1, 630, 63);
        CHECK.due("the last phase of 63", around.sampleOf(62, 0), 10000 + 10 * (124 - 63));
        CHECK.due("the first phase again", around.sampleOf(63, 0), 10000 - 630);
        CHECK.says("Undoable.");
        CHECK.undoable("add(2, 50, 3)", y -> y.add(2, 50, 3));
        CHECK.undoable("add(1, 2047, 64)", y -> y.add(1, 2047, 64));
        CHECK.undoable("add(0, 0, 1)", y -> y.add(0, 0, 1));
        CHECK.says("`kind`: 0: a square: the height if 2 * f is less than the period, otherwise the height taken off;");
        shape(0, 100, 4, 100, 100, -100, -100, 100);
        shape(0, 100, 5, 100, 100, 100, -100, -100, 100);
        shape(0, 2047, 2, 2047, -2047, 2047);
        shape(0, 7, 3, 7, 7, -7, 7);
        CHECK.says("1: a saw: height * (2 * f - period) / period, rounded towards 0;");
        shape(1, 100, 3, -100, -33, 33, -100);
        shape(1, 100, 1, -100, -100);
        shape(1, 100, 4, -100, -50, 0, 50, -100);
        shape(1, 1, 3, -1, 0, 0, -1);
        shape(1, 2047, 64, -2047, -1983, -1919);
        CHECK.says("2: a triangle: height * (4 * |f - period / 2| - period) / period, rounded towards 0 (period / 2 "
            + "rounded down)");
        shape(2, 99, 5, 59, -19, -99, -19, 59, 59);
        shape(2, 100, 6, 100, 33, -33, -100, -33, 33, 100);
        shape(2, 100, 1, -100, -100);
        shape(2, 100, 2, 100, -100, 100);
        shape(2, 100, 3, 33, -100, 33, 33);
        shape(2, 2047, 64, 2047, 1919);
    }

    private static void addArguments() {
        CHECK.says("`height`: 0 to 2047");
        shape(0, 0, 64, 0, 0, 0);
        shape(0, 2047, 64, 2047, 2047);
        CHECK.range("add(1, .., 5)", Checks.ARGUMENT, 0, 2047, (x, height) -> x.add(1, height, 5));
        CHECK.says("`period`: 1 to 64");
        for (int kind = 0; kind < 3; kind++) {
            int which = kind;
            CHECK.range("add(" + kind + ", 9, ..)", Checks.ARGUMENT, 1, 64, (x, period) -> x.add(which, 9, period));
        }
    }

    private static void addAnswers() {
        CHECK.says("Returns how many samples are clipped (would be out of the range).");
        CHECK.due("one above", Made.waveOf(2046, 2047, 2045).add(0, 1, 1), 1);
        CHECK.due("two above", Made.waveOf(2046, 2047, 2045).add(0, 2, 1), 2);
        CHECK.due("all above", Made.waveOf(2046, 2047, 2045).add(0, 3, 1), 3);
        CHECK.due("none above", Made.waveOf(2046, 2046).add(0, 1, 1), 0);
        // A saw of period 1 takes its height off.
        CHECK.due("one below", Made.waveOf(-2048, -2047, -2046).add(1, 1, 1), 1);
        CHECK.due("two below", Made.waveOf(-2048, -2047, -2046).add(1, 2, 1), 2);
        CHECK.due("none below", Made.waveOf(-2047, -2047).add(1, 1, 1), 0);
        CHECK.due("above and below", Made.waveOf(1, 0, -1, -2, 2047).add(0, 2047, 4), 3);
        CHECK.due("nothing added at the ends", Made.waveOf(-2048, 2047).add(0, 0, 1), 0);
        SteppedSamples loud = new SteppedSamples();
        loud.wave(64);
        loud.add(0, 2047, 1);
        CHECK.due("all of 64", loud.add(0, 1, 1), 64);
        CHECK.says("Throws `IllegalArgumentException` if an argument is out of range");
        CHECK.range("add(.., 9, 5)", Checks.ARGUMENT, 0, 2, (x, kind) -> x.add(kind, 9, 5));
        CHECK.range("add(0, .., 5)", Checks.ARGUMENT, 0, 2047, (x, height) -> x.add(0, height, 5));
        CHECK.range("add(2, 9, ..)", Checks.ARGUMENT, 1, 64, (x, period) -> x.add(2, 9, period));
        CHECK.refused("add(3, -1, 0)", Checks.ARGUMENT, x -> x.add(3, -1, 0));
    }

    // ---- promise 5

    private static void take() {
        CHECK.of(5);
        CHECK.says("Takes what the decoder makes of all blocks as the wave, not coded.");
        SteppedSamples x = Made.small();
        x.take();
        CHECK.samples("taken", x, 0, 10000, 10011, 10050, 10062);
        CHECK.due("count(0)", x.count(0), 4);
        CHECK.due("count(1)", x.count(1), 0);
        int[][] filled = {{10011, 10011}, {10000, 10000}, {10000, 10011}};
        for (int filling = 0; filling < 3; filling++) {
            SteppedSamples lossy = Made.small();
            lossy.set(2, filling);
            lossy.lose(1);
            lossy.take();
            CHECK.samples("taken, filled by " + filling, lossy, 0, 10000, 10011, filled[filling][0], filled[filling][1]);
        }
        SteppedSamples spoiled = Made.small();
        spoiled.spoil(1, 3);
        spoiled.take();
        CHECK.samples("taken, spoiled", spoiled, 0, 10000, 9989, 10050, 10062);
        CHECK.says("Undoable.");
        CHECK.undoableIfCoded("take()", y -> y.take());
        CHECK.undoableOn("take() of the small one", y -> y.take(), Made::small);
        CHECK.says("Returns how many samples become others.");
        CHECK.due("take()", Made.small().take(), 2);
        CHECK.due("take() of just the same", Made.silent(64, 16).take(), 0);
        SteppedSamples lossy = Made.small();
        lossy.lose(1);
        CHECK.due("take() with a lost block", lossy.take(), 3);
        SteppedSamples loaded = Made.silent(16, 16);
        Made.type(loaded, "1,0:000000000000000");
        loaded.load(0);
        CHECK.due("take() of all others", loaded.take(), 16);
        CHECK.says("Throws `IllegalStateException` if the wave is not coded");
        CHECK.refusedUnlessCoded("take()", Checks.STATE, y -> y.take());
        CHECK.refusedOn("take() again", Checks.STATE, y -> y.take(), () -> {
            SteppedSamples taken = Made.rich();
            taken.take();
            return taken;
        });
    }

    // ---- promise 6

    private static void set() {
        CHECK.of(6);
        CHECK.says("Changes a setting.");
        SteppedSamples x = new SteppedSamples();
        x.set(0, 16);
        x.set(1, 1);
        x.set(2, 2);
        CHECK.due("setting(0)", x.setting(0), 16);
        CHECK.due("setting(1)", x.setting(1), 1);
        CHECK.due("setting(2)", x.setting(2), 2);
        x.code();
        x.lose(1);
        x.set(2, 1);
        CHECK.due("count(1) behind set(2, 1)", x.count(1), 1);
        CHECK.due("count(3) behind set(2, 1)", x.count(3), 1);
        x.set(0, 16);
        CHECK.due("count(1) behind set(0, 16)", x.count(1), 0);
        x.code();
        x.set(1, 1);
        CHECK.due("count(1) behind set(1, 1)", x.count(1), 0);
        CHECK.says("Undoable.");
        for (int setting = 0; setting < 3; setting++) {
            int which = setting;
            CHECK.undoable("set(" + which + ", 2 or 1)", y -> y.set(which, which == 1 ? 1 : 2));
            CHECK.undoable("set(" + which + ") to what it is", y -> y.set(which, y.setting(which)));
        }
        CHECK.says("`setting`: 0 to 2");
        CHECK.due("set(0, 9)", new SteppedSamples().set(0, 9), 8);
        CHECK.due("set(2, 1)", new SteppedSamples().set(2, 1), 0);
        CHECK.says("`value`: the new value");
        for (int value = 2; value <= 16; value++) {
            SteppedSamples y = new SteppedSamples();
            y.set(0, value);
            CHECK.due("setting(0)", y.setting(0), value);
        }
        CHECK.says("Returns the previous value.");
        SteppedSamples y = new SteppedSamples();
        CHECK.due("set(0, 2)", y.set(0, 2), 8);
        CHECK.due("set(0, 16)", y.set(0, 16), 2);
        CHECK.due("set(0, 16) again", y.set(0, 16), 16);
        CHECK.due("set(1, 1)", y.set(1, 1), 0);
        CHECK.due("set(1, 0)", y.set(1, 0), 1);
        CHECK.due("set(2, 2)", y.set(2, 2), 0);
        CHECK.due("set(2, 0)", y.set(2, 0), 2);
    }

    private static void setRefuses() {
        CHECK.says("Throws `IndexOutOfBoundsException` if there is no such setting");
        // 0 is no value of the setting 0, so the value is 2 there.
        CHECK.range("set(.., 0 or 2)", Checks.INDEX, 0, 2, (x, setting) -> x.set(setting, setting == 0 ? 2 : 0));
        for (int value : new int[] {-1, 17, Integer.MIN_VALUE, Integer.MAX_VALUE}) {
            CHECK.refused("set(-1, " + value + ")", Checks.INDEX, x -> x.set(-1, value));
            CHECK.refused("set(3, " + value + ")", Checks.INDEX, x -> x.set(3, value));
        }
        CHECK.says("Throws `IllegalArgumentException` if value is out of range");
        CHECK.range("set(0, ..)", Checks.ARGUMENT, 2, 16, (x, value) -> x.set(0, value));
        CHECK.range("set(1, ..)", Checks.ARGUMENT, 0, 1, (x, value) -> x.set(1, value));
        CHECK.range("set(2, ..)", Checks.ARGUMENT, 0, 2, (x, value) -> x.set(2, value));
    }
}
