/** Promises 15 to 17. */
public final class SnapshotsTest {
    private static final Checks CHECK = new Checks("SnapshotsTest");

    public static void main(String[] args) {
        keep();
        goBack();
        goBackRestores();
        goBackRefuses();
        undo();
        undoDrops();
        CHECK.end();
    }

    // ---- promise 15

    private static void keep() {
        CHECK.of(15);
        CHECK.says("Takes a snapshot, in place of the one in the slot.");
        SteppedSamples x = Made.small();
        x.keep(0);
        x.wave(9);
        x.keep(1);
        x.wave(7);
        CHECK.due("goBack(0)", x.goBack(0), 4);
        CHECK.due("count(1)", x.count(1), 1);
        x.keep(1);
        x.wave(5);
        CHECK.due("goBack(1) to what was kept in place", x.goBack(1), 4);
        CHECK.due("goBack(0) to the other slot", x.goBack(0), 4);
        CHECK.leavesStates("keep(0)", y -> y.keep(0));
        CHECK.leavesStates("keep(1)", y -> y.keep(1));
        SteppedSamples typed = Made.rich();
        typed.keep(0);
        CHECK.holds("the buffer stays", Made.holds(typed, "12,3:a"));
        CHECK.says("`slot`: 0 or 1");
        CHECK.due("keep(0)", new SteppedSamples().keep(0), 32);
        CHECK.due("keep(1)", new SteppedSamples().keep(1), 32);
        CHECK.says("Returns how many samples the wave has.");
        for (int many : new int[] {1, 5, 63, 64}) {
            SteppedSamples y = Made.silent(many, 4);
            CHECK.due("keep(0)", y.keep(0), many);
            y.wave(2);
            CHECK.due("keep(0) in place of it", y.keep(0), 2);
        }
        CHECK.says("Throws `IllegalArgumentException` if slot is out of range");
        CHECK.range("keep()", Checks.ARGUMENT, 0, 1, SteppedSamples::keep);
    }

    // ---- promise 16

    private static void goBack() {
        CHECK.of(16);
        CHECK.says("Goes back to a snapshot,");
        for (Checks.Maker maker : new Checks.Maker[] {Made::fresh, Made::stale, Made::rich, Made::full}) {
            SteppedSamples back = maker.make();
            back.keep(1);
            long[] was = looks(back);
            back.wave(64);
            back.add(0, 100, 7);
            back.set(0, 5);
            back.set(2, 1);
            back.code();
            back.goBack(1);
            long[] is = looks(back);
            for (int k = 0; k < was.length; k++) {
                CHECK.due("look " + k + " behind goBack(1)", is[k], was[k]);
            }
        }
    }

    /** Some looks at all parts of a state of up to 32 samples. */
    private static long[] looks(SteppedSamples x) {
        long[] looks = new long[128];
        for (int what = 0; what < 11; what++) {
            looks[what] = x.count(what);
        }
        for (int setting = 0; setting < 3; setting++) {
            looks[11 + setting] = x.setting(setting);
        }
        for (int sample = 0; sample < x.count(0) && sample < 11; sample++) {
            for (int what = 0; what < 5; what++) {
                looks[20 + 5 * sample + what] = x.sampleOf(sample, what);
            }
        }
        for (int block = 0; block < x.count(2); block++) {
            for (int what = 0; what < 6; what++) {
                looks[80 + 6 * block + what] = x.blockOf(block, what);
            }
        }
        return looks;
    }

    private static void goBackRestores() {
        CHECK.says("which stays.");
        SteppedSamples x = Made.small();
        x.keep(0);
        for (int round = 0; round < 3; round++) {
            x.sample(0, 77 + round);
            x.code();
            x.goBack(0);
            CHECK.due("value", x.sampleOf(0, 0), 10000);
            CHECK.due("codings", x.count(9), 1);
            x.spoil(1, 3);
            x.lose(0);
            x.goBack(0);
            CHECK.samples("codes", x, 3, -1, 7, -1, 2);
            CHECK.due("lost blocks", x.count(3), 0);
            CHECK.due("bits turned over", x.count(10), 0);
        }
        CHECK.says("Undoable.");
        CHECK.undoableOn("goBack(0)", y -> y.goBack(0), Made::stale, Made::full);
        CHECK.undoableIfCoded("goBack(1)", y -> y.goBack(1));
        SteppedSamples undone = Made.small();
        undone.keep(0);
        undone.spoil(1, 0);
        undone.code();
        undone.goBack(0);
        CHECK.due("codings", undone.count(9), 1);
        undone.undo();
        CHECK.due("codings behind undo()", undone.count(9), 2);
        CHECK.due("bits turned over behind undo()", undone.count(10), 1);
        CHECK.says("`slot`: 0 or 1");
        SteppedSamples both = Made.waveOf(1, 2, 3);
        both.keep(1);
        both.wave(6);
        both.keep(0);
        both.wave(9);
        CHECK.due("goBack(1)", both.goBack(1), 3);
        CHECK.due("goBack(0)", both.goBack(0), 6);
        CHECK.says("Returns how many samples the wave has then.");
        for (int many : new int[] {1, 5, 63, 64}) {
            SteppedSamples y = Made.silent(many, 4);
            y.keep(0);
            y.wave(2);
            CHECK.due("goBack(0)", y.goBack(0), many);
        }
    }

    private static void goBackRefuses() {
        CHECK.says("Throws `IllegalArgumentException` if slot is out of range");
        CHECK.rangeOn("goBack()", Checks.ARGUMENT, 0, 1, SteppedSamples::goBack, Made::full);
        for (int slot : new int[] {-1, 2, 3, Integer.MIN_VALUE, Integer.MAX_VALUE}) {
            CHECK.refused("goBack(" + slot + ")", Checks.ARGUMENT, x -> x.goBack(slot));
        }
        CHECK.says("Throws `IllegalStateException` if there is no snapshot in it");
        CHECK.refusedOn("goBack(0)", Checks.STATE, x -> x.goBack(0), Made::fresh, Made::small, Made::rich);
        CHECK.refusedOn("goBack(1)", Checks.STATE, x -> x.goBack(1), Made::fresh, Made::small, Made::stale);
        CHECK.refusedOn("goBack(0) behind an undone keep(1)", Checks.STATE, x -> x.goBack(0), () -> {
            SteppedSamples x = Made.waveOf(1);
            x.keep(1);
            x.undo();
            return x;
        });
    }

    // ---- promise 17

    private static void undo() {
        CHECK.of(17);
        CHECK.says("Restores the latest saved state,");
        SteppedSamples x = new SteppedSamples();
        x.sample(0, 1);
        x.sample(0, 2);
        x.sample(0, 2);
        x.keep(0);
        x.append('7');
        x.undo();
        CHECK.due("value", x.sampleOf(0, 0), 10002);
        x.undo();
        CHECK.due("value again", x.sampleOf(0, 0), 10001);
        x.undo();
        CHECK.due("last value", x.sampleOf(0, 0), 10000);
        CHECK.due("the buffer stays", x.clearBuffer(), 1);
        CHECK.due("the slot stays", x.goBack(0), 32);
        CHECK.due("its value", x.sampleOf(0, 0), 10002);
        SteppedSamples y = Made.small();
        y.lose(1);
        y.spoil(1, 3);
        y.undo();
        CHECK.samples("codes", y, 3, -1, 7, -1, 2);
        CHECK.due("bits turned over", y.count(10), 0);
        CHECK.due("still lost", y.count(3), 1);
        y.undo();
        CHECK.due("not lost any more", y.count(3), 0);
        CHECK.samples("made", y, 1, 10000, 10011, 10050, 10062);
        y.undo();
        CHECK.due("not coded", y.count(1), 0);
        CHECK.due("codings", y.count(9), 0);
        y.undo();
        CHECK.due("setting(0)", y.setting(0), 8);
    }

    private static void undoDrops() {
        CHECK.says("and drops it.");
        SteppedSamples x = new SteppedSamples();
        x.sample(1, 5);
        x.sample(1, 6);
        x.undo();
        x.sample(1, 7);
        x.undo();
        CHECK.due("value behind another change undone", x.sampleOf(1, 0), 10005);
        x.undo();
        CHECK.due("value behind all undone", x.sampleOf(1, 0), 10000);
        CHECK.says("Returns how many saved states are left.");
        for (int many = 1; many <= 9; many++) {
            SteppedSamples y = new SteppedSamples();
            for (int k = 0; k < many; k++) {
                y.sample(0, k);
            }
            for (int left = Math.min(6, many) - 1; left >= 0; left--) {
                CHECK.due("undo()", y.undo(), left);
                CHECK.due("count(11)", y.count(11), left);
            }
        }
        CHECK.says("Throws `IllegalStateException` if there is none");
        CHECK.refusedOn("undo() of nothing", Checks.STATE, y -> y.undo(), Made::fresh, () -> undone(Made.small()),
            () -> undone(Made.rich()), () -> undone(Made.full()));
    }

    private static SteppedSamples undone(SteppedSamples x) {
        int saved = x.count(11);
        for (int k = 0; k < saved; k++) {
            x.undo();
        }
        return x;
    }
}
