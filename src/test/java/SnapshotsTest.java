/** Promises 15 to 17. */
public final class SnapshotsTest {
    private static final Checks CHECK = new Checks("SnapshotsTest");

    public static void main(String[] args) {
        promise15();
        promise16();
        promise16Counts();
        promise17();
        promise17Depth();
        CHECK.end();
    }

    private static void promise15() {
        SteppedSamples x = Checks.small();
        int saved = x.count(11);
        CHECK.due("keep(0)", x.keep(0), 4);
        x.wave(9);
        CHECK.due("keep(1)", x.keep(1), 9);
        CHECK.due("keep saves nothing", x.count(11), Math.min(6, saved + 1));
        CHECK.due("goBack(0)", x.goBack(0), 4);
        CHECK.due("keep(1) in place of another", x.keep(1), 4);
        x.wave(5);
        CHECK.due("goBack(1)", x.goBack(1), 4);
        for (int slot : new int[] {-1, 2, 3, Integer.MIN_VALUE, Integer.MAX_VALUE}) {
            CHECK.refused("keep(" + slot + ")", x, Checks.ARGUMENT, () -> x.keep(slot));
        }
    }

    private static void promise16() {
        SteppedSamples x = Checks.small();
        x.lose(1);
        x.spoil(1, 0);
        x.keep(1);
        long kept = Checks.stateOf(x);
        for (int slot : new int[] {-1, 2, Integer.MIN_VALUE, Integer.MAX_VALUE}) {
            CHECK.refused("goBack(" + slot + ")", x, Checks.ARGUMENT, () -> x.goBack(slot));
        }
        CHECK.refused("goBack(0) of an empty slot", x, Checks.STATE, () -> x.goBack(0));
        for (int round = 0; round < 2; round++) {
            x.wave(64);
            x.add(0, 100, 7);
            x.set(0, 5);
            x.set(2, 1);
            x.code();
            Checks.type(x, "12");
            CHECK.undoable("goBack(1)", x, () -> x.goBack(1));
            CHECK.due("goBack(1)", x.goBack(1), 4);
            CHECK.due("state behind goBack", Checks.stateOf(x), kept);
            CHECK.due("the buffer stays", x.clearBuffer(), 2);
            x.spoil(1, 1);
        }
        x.goBack(1);
        CHECK.due("the snapshot stays as it was", Checks.stateOf(x), kept);
    }

    private static void promise16Counts() {
        SteppedSamples x = Checks.small();
        x.keep(0);
        x.spoil(1, 0);
        x.code();
        x.code();
        CHECK.due("codings", x.count(9), 3);
        x.goBack(0);
        CHECK.due("codings behind goBack", x.count(9), 1);
        CHECK.due("turned bits behind goBack", x.count(10), 0);
        x.undo();
        CHECK.due("codings behind undo", x.count(9), 3);
        CHECK.due("turned bits behind undo", x.count(10), 1);
        x.undo();
        CHECK.due("codings behind another undo", x.count(9), 2);
    }

    private static void promise17() {
        SteppedSamples x = new SteppedSamples();
        CHECK.refused("undo() of nothing", x, Checks.STATE, () -> x.undo());
        x.sample(0, 1);
        x.sample(0, 2);
        x.sample(0, 2);
        x.keep(0);
        CHECK.due("undo()", x.undo(), 2);
        CHECK.due("value", x.sampleOf(0, 0), 10002);
        CHECK.due("undo() again", x.undo(), 1);
        CHECK.due("value again", x.sampleOf(0, 0), 10001);
        CHECK.due("last undo()", x.undo(), 0);
        CHECK.due("last value", x.sampleOf(0, 0), 10000);
        CHECK.refused("one undo() more", x, Checks.STATE, () -> x.undo());
        CHECK.due("the slot stays", x.goBack(0), 32);
        CHECK.due("its value", x.sampleOf(0, 0), 10002);
    }

    private static void promise17Depth() {
        SteppedSamples x = new SteppedSamples();
        for (int value = 1; value <= 20; value++) {
            x.sample(0, value);
            CHECK.due("saved states", x.count(11), Math.min(6, value));
        }
        for (int left = 5; left >= 0; left--) {
            CHECK.due("undo() to " + left, x.undo(), left);
            CHECK.due("value with " + left, x.sampleOf(0, 0), 10014 + left);
        }
        CHECK.refused("undo() of a dropped state", x, Checks.STATE, () -> x.undo());
        x.sample(1, 5);
        x.sample(1, 6);
        CHECK.due("undo() behind undo", x.undo(), 1);
        CHECK.due("value behind undo", x.sampleOf(1, 0), 10005);
    }
}
