/** "Terms": the input text, snapshots and undo, exceptions. */
public final class BuffersTest {
    private static final Checks CHECK = new Checks("BuffersTest");
    private static final String DIGITS = "0123456789";
    private static final String FIFTEEN = "0123456789abcde";

    public static void main(String[] args) {
        length();
        firstSample();
        number();
        codes();
        leftToRight();
        goesOn();
        slots();
        snapshot();
        undoableCalls();
        undoableWithoutChange();
        savedState();
        atMostSix();
        throwingCalls();
        throwingCallsOfLooks();
        firstNamed();
        constants();
        CHECK.end();
    }

    // ---- Input text

    private static void length() {
        CHECK.of("Input text");
        CHECK.says("The buffer has at most 40 characters.");
        SteppedSamples x = new SteppedSamples();
        for (int k = 1; k <= 40; k++) {
            CHECK.due("append", x.append('0' + k % 10), k);
        }
        CHECK.refusedOn("append to 40", Checks.STATE, y -> y.append('0'), () -> buffered(40));
        CHECK.due("append to 39", buffered(39).append('0'), 40);
    }

    private static SteppedSamples buffered(int many) {
        SteppedSamples x = new SteppedSamples();
        for (int k = 0; k < many; k++) {
            x.append('7');
        }
        return x;
    }

    /** The text tells a block: it has no error, and load() takes all that it tells. */
    private static void tells(String text, int first, int number) {
        String told = text.substring(text.indexOf(':') + 1);
        SteppedSamples x = Made.silent(1 + told.length(), 16);
        Made.type(x, text);
        CHECK.due("firstError() of " + text, x.firstError(), text.length());
        x.load(0);
        CHECK.due("first sample of " + text, x.blockOf(0, 1), 10000 + first);
        CHECK.due("number of " + text, x.blockOf(0, 2), number);
        for (int k = 0; k < told.length(); k++) {
            CHECK.due("code of " + text, x.sampleOf(1 + k, 3), Character.digit(told.charAt(k), 16));
        }
    }

    /** A block as a text begins with this one, but it is none yet. */
    private static void begins(String text) {
        SteppedSamples x = new SteppedSamples();
        Made.type(x, text);
        CHECK.due("firstError() of " + text, x.firstError(), text.length());
        tellsNone(text);
    }

    private static void wrongAt(int index, String text) {
        SteppedSamples x = new SteppedSamples();
        Made.type(x, text);
        CHECK.due("firstError() of " + text, x.firstError(), index);
        tellsNone(text);
    }

    private static void tellsNone(String text) {
        CHECK.refusedOn("load() of " + text, Checks.ARGUMENT, x -> x.load(0), () -> {
            SteppedSamples x = Made.silent(1 + Math.max(0, text.length() - text.indexOf(':') - 1) % 16, 16);
            Made.type(x, text);
            return x;
        });
    }

    private static void firstSample() {
        CHECK.says("A block as a text is a first sample (\"0\", or perhaps \"-\", and 1 to 2048, without leading zeros; "
            + "2048 only behind \"-\"),");
        for (int first = -2048; first <= 2047; first++) {
            tells(first + ",0:", first, 0);
        }
        wrongAt(3, "2048,0:");
        wrongAt(3, "2049,0:");
        wrongAt(4, "-2049,0:");
        wrongAt(3, "2050,0:");
        wrongAt(4, "-2050,0:");
        wrongAt(3, "3000,0:");
        wrongAt(4, "10000,0:");
        wrongAt(5, "-10000,0:");
        wrongAt(1, "-0,0:");
        wrongAt(1, "00,0:");
        wrongAt(1, "01,0:");
        wrongAt(1, "-01,0:");
        wrongAt(1, "--1,0:");
        wrongAt(0, "+1,0:");
        wrongAt(0, ",0:");
        wrongAt(1, "-,0:");
        begins("");
        begins("-");
        begins("0");
        begins("2047");
        begins("-2048");
    }

    private static void number() {
        CHECK.says("\",\", the number of a step (0 to 48, without leading zeros),");
        for (int number = 0; number <= 48; number++) {
            tells("5," + number + ":9", 5, number);
        }
        wrongAt(3, "5,49:9");
        wrongAt(3, "5,50:9");
        wrongAt(3, "5,99:9");
        wrongAt(4, "5,480:9");
        wrongAt(4, "5,100:9");
        wrongAt(3, "5,00:9");
        wrongAt(3, "5,04:9");
        wrongAt(2, "5,-1:9");
        wrongAt(2, "5,-0:9");
        wrongAt(2, "5,:9");
        wrongAt(2, "5,,0:9");
        wrongAt(1, "5;0:9");
        wrongAt(1, "5:0:9");
        begins("5,");
        begins("5,0");
        begins("5,48");
    }

    private static void codes() {
        CHECK.says("\":\", and then any number of codes, each a digit \"0\" to \"9\" or a letter \"a\" to \"f\" (10 to "
            + "15), at most 15.");
        for (int many = 0; many <= 15; many++) {
            tells("-7,31:" + "fedcba987654321".substring(15 - many), -7, 31);
            tells("1999,9:" + FIFTEEN.substring(0, many), 1999, 9);
        }
        tells("0,0:fffffffffffffff", 0, 0);
        wrongAt(19, "0,0:" + FIFTEEN + "f");
        wrongAt(24, "-2048,48:" + FIFTEEN + "0");
        wrongAt(4, "0,0:g");
        wrongAt(4, "0,0:A");
        wrongAt(4, "0,0:F");
        wrongAt(4, "0,0::");
        wrongAt(4, "0,0:/");
        wrongAt(4, "0,0:`");
        wrongAt(4, "0,0:-1");
        wrongAt(5, "0,0:1,");
        wrongAt(3, "0,0;1");
        wrongAt(3, "0,0,1");
    }

    private static void leftToRight() {
        CHECK.says("The buffer is read from left to right;");
        wrongAt(0, "x0,0:");
        wrongAt(0, ":0,0-");
        wrongAt(3, "20480,0:1!");
        wrongAt(5, "0,0:0G1!");
        wrongAt(2, "1,x,49:g");
    }

    private static void goesOn() {
        CHECK.says("a character is a syntax error if no block as a text begins with the characters before it and this "
            + "character.");
        follow("", "-" + DIGITS);
        follow("-", "123456789");
        follow("0", ",");
        for (String before : new String[] {"1", "-1", "2", "20", "3", "30", "99", "199", "203", "-203", "-20", "204"}) {
            follow(before, "," + (before.equals("204") ? "01234567" : DIGITS));
        }
        follow("-204", ",012345678");
        for (String before : new String[] {"205", "-205", "300", "999", "1000", "-1999", "2047", "-2048"}) {
            follow(before, ",");
        }
        follow("1,", DIGITS);
        for (String before : new String[] {"1,1", "1,2", "1,3", "1,4"}) {
            follow(before, ":" + (before.equals("1,4") ? "012345678" : DIGITS));
        }
        for (String before : new String[] {"1,0", "1,5", "1,9", "1,10", "1,39", "1,48"}) {
            follow(before, ":");
        }
        for (String before : new String[] {"1,0:", "1,48:f", "-2048,48:0123456789abcd"}) {
            follow(before, DIGITS + "abcdef");
        }
        follow("1,0:" + FIFTEEN, "");
    }

    /** Of all characters, only these ones are no error behind the text. */
    private static void follow(String text, String right) {
        for (int code = 33; code <= 126; code++) {
            SteppedSamples x = new SteppedSamples();
            Made.type(x, text);
            x.append(code);
            int want = right.indexOf(code) >= 0 ? text.length() + 1 : text.length();
            CHECK.due("firstError() of " + text + (char) code, x.firstError(), want);
        }
    }

    // ---- Snapshots, undo

    private static void slots() {
        CHECK.of("Snapshots, undo");
        CHECK.says("There are two slots;");
        SteppedSamples x = Made.waveOf(1, 2, 3);
        x.keep(0);
        x.wave(5);
        x.keep(1);
        CHECK.due("goBack(0)", x.goBack(0), 3);
        CHECK.due("goBack(1)", x.goBack(1), 5);
        CHECK.due("goBack(0) again", x.goBack(0), 3);
        CHECK.range("keep()", Checks.ARGUMENT, 0, 1, SteppedSamples::keep);
        CHECK.rangeOn("goBack()", Checks.ARGUMENT, 0, 1, SteppedSamples::goBack, Made::full);
    }

    private static void snapshot() {
        CHECK.says("a snapshot is all but the buffer, the slots and the saved states.");
        for (Checks.Maker maker : new Checks.Maker[] {Made::fresh, Made::stale, Made::rich, Made::full}) {
            SteppedSamples back = maker.make();
            back.keep(0);
            changeAll(back);
            back.goBack(0);
            SteppedSamples calm = maker.make();
            calm.keep(0);
            for (int k = 0; k < 6; k++) {
                calm.set(2, calm.setting(2));
            }
            Made.type(calm, "1,2");
            CHECK.due("the digest behind goBack(0), with the buffer as it was", back.digest(), calm.digest());
        }
        SteppedSamples x = Made.waveOf(1);
        x.keep(0);
        x.wave(5);
        x.keep(1);
        x.wave(7);
        x.goBack(0);
        CHECK.due("saved states behind goBack(0)", x.count(11), 5);
        CHECK.due("undo() of goBack(0)", x.undo(), 4);
        CHECK.due("samples behind it", x.count(0), 7);
        CHECK.due("undo() of what was before it", x.undo(), 3);
        CHECK.due("samples behind that", x.count(0), 5);
        x.goBack(0);
        CHECK.due("goBack(1) to what was kept behind the slot 0", x.goBack(1), 5);
    }

    /** Changes all that a snapshot has, and leaves "1,2" in the buffer. */
    private static void changeAll(SteppedSamples x) {
        x.wave(9);
        x.add(0, 300, 4);
        x.set(0, 3);
        x.set(1, 1);
        x.set(2, 2);
        x.code();
        x.spoil(1, 3);
        x.lose(2);
        Made.type(x, "1,2");
    }

    private static void loadFitting(SteppedSamples x) {
        Made.type(x, "-77,5:9ab");
        x.load(0);
    }

    private static void undoableCalls() {
        CHECK.says("Each method that is marked \"undoable\" and does not throw an exception saves the state from before "
            + "it");
        CHECK.undoableIfCoded("wave(3)", x -> x.wave(3));
        CHECK.undoableIfCoded("sample(5, 6)", x -> x.sample(5, 6));
        CHECK.undoableIfCoded("add(0, 70, 3)", x -> x.add(0, 70, 3));
        CHECK.undoableIfCoded("take()", x -> x.take());
        CHECK.undoableIfCoded("set(0, 3)", x -> x.set(0, 3));
        CHECK.undoableIfCoded("code()", x -> x.code());
        CHECK.undoableIfCoded("lose(0)", x -> x.lose(0));
        CHECK.undoableIfCoded("spoil(1, 2)", x -> x.spoil(1, 2));
        CHECK.undoableIfCoded("load(0)", x -> loadFitting(x));
        CHECK.undoableIfCoded("goBack(1)", x -> x.goBack(1));
        SteppedSamples x = Made.rich();
        Checks.Call[] refusedOnes = {y -> y.wave(65), y -> y.sample(11, 0), y -> y.add(3, 0, 1), y -> y.set(0, 17),
            y -> y.lose(3), y -> y.spoil(0, 0), y -> y.load(0), y -> y.goBack(0)};
        for (Checks.Call call : refusedOnes) {
            CHECK.holds("a call is refused", Checks.isRefused(call, x));
            CHECK.due("saved states behind a refused call", x.count(11), 5);
        }
        CHECK.leavesStates("append(48)", y -> y.append(48));
        CHECK.leavesStates("clearBuffer()", y -> y.clearBuffer());
        CHECK.leavesStates("firstError()", y -> y.firstError());
        CHECK.leavesStatesIfCoded("write(0)", y -> y.write(0));
        CHECK.leavesStates("keep(1)", y -> y.keep(1));
    }

    private static void undoableWithoutChange() {
        CHECK.says("(also if it changes nothing):");
        CHECK.undoableOn("wave(32)", x -> x.wave(32), Made::fresh);
        CHECK.undoableOn("sample(0, 0)", x -> x.sample(0, 0), Made::fresh);
        CHECK.undoableOn("add(0, 0, 1)", x -> x.add(0, 0, 1), Made::fresh, Made::stale);
        CHECK.undoableOn("set(0, 8)", x -> x.set(0, 8), Made::fresh, Made::stale);
        CHECK.undoable("set(2, 0)", x -> x.set(2, 0));
        CHECK.undoableIfCoded("load(0) of what is there", x -> {
            x.write(0);
            x.load(0);
        });
        CHECK.undoableOn("goBack(0) to what was kept just now", x -> x.goBack(0), () -> justKept(Made.fresh()),
            () -> justKept(Made.rich()), () -> justKept(Made.full()));
    }

    private static SteppedSamples justKept(SteppedSamples x) {
        x.keep(0);
        return x;
    }

    private static void savedState() {
        CHECK.says("all, also what is counted so far, but the buffer, the slots and the saved states.");
        SteppedSamples x = Made.codedBy(2, 3, 900);
        x.spoil(1, 0);
        x.code();
        CHECK.due("codings", x.count(9), 2);
        CHECK.due("bits turned over", x.count(10), 1);
        x.undo();
        CHECK.due("codings behind undo()", x.count(9), 1);
        x.undo();
        CHECK.due("bits turned over behind another undo()", x.count(10), 0);
        Made.type(x, "1,2");
        x.sample(0, 4);
        Made.type(x, "99");
        x.keep(0);
        x.undo();
        CHECK.holds("the buffer stays", Made.holds(x, "99"));
        CHECK.due("the wave is coded again", x.count(1), 1);
        CHECK.due("the slot stays", x.goBack(0), 2);
        CHECK.due("with its snapshot", x.sampleOf(0, 0), 10004);
        x.undo();
        Made.type(x, "7,7:7");
        x.load(0);
        x.undo();
        CHECK.due("the buffer stays cleared", x.clearBuffer(), 0);
        CHECK.due("the block is there again", x.blockOf(0, 1), 10003);
    }

    private static void atMostSix() {
        CHECK.says("At most 6 states are saved; the oldest one is dropped first.");
        for (int many = 0; many <= 20; many++) {
            SteppedSamples x = new SteppedSamples();
            for (int value = 1; value <= many; value++) {
                x.sample(0, value);
            }
            int saved = Math.min(6, many);
            CHECK.due("saved states behind " + many, x.count(11), saved);
            for (int left = saved - 1; left >= 0; left--) {
                CHECK.due("undo()", x.undo(), left);
                CHECK.due("value", x.sampleOf(0, 0), 10000 + many - saved + left);
            }
            CHECK.holds("no more undo()", Checks.isRefused(y -> y.undo(), x));
        }
    }

    // ---- Exceptions

    private static void throwingCalls() {
        CHECK.of("Exceptions");
        CHECK.says("A call that throws an exception changes nothing.");
        CHECK.refused("wave(0)", Checks.ARGUMENT, x -> x.wave(0));
        CHECK.refused("sample(64, 0)", Checks.INDEX, x -> x.sample(64, 0));
        CHECK.refused("sample(0, 2048)", Checks.ARGUMENT, x -> x.sample(0, 2048));
        CHECK.refused("add(3, 0, 1)", Checks.ARGUMENT, x -> x.add(3, 0, 1));
        CHECK.refused("add(0, 2048, 1)", Checks.ARGUMENT, x -> x.add(0, 2048, 1));
        CHECK.refused("add(0, 5, 0)", Checks.ARGUMENT, x -> x.add(0, 5, 0));
        CHECK.refusedUnlessCoded("take()", Checks.STATE, x -> x.take());
        CHECK.refused("set(3, 0)", Checks.INDEX, x -> x.set(3, 0));
        CHECK.refused("set(0, 1)", Checks.ARGUMENT, x -> x.set(0, 1));
        CHECK.refusedUnlessCoded("lose(0)", Checks.INDEX, x -> x.lose(0));
        CHECK.refused("lose(3)", Checks.INDEX, x -> x.lose(3));
        CHECK.refusedUnlessCoded("spoil(1, 0)", Checks.INDEX, x -> x.spoil(1, 0));
        CHECK.refused("spoil(0, 0)", Checks.INDEX, x -> x.spoil(0, 0));
        CHECK.refusedIfCoded("spoil(1, 4)", Checks.ARGUMENT, x -> x.spoil(1, 4));
        CHECK.refused("append(32)", Checks.ARGUMENT, x -> x.append(32));
        CHECK.refusedOn("append(48)", Checks.STATE, x -> x.append(48), () -> buffered(40));
        CHECK.refusedUnlessCoded("load(0)", Checks.INDEX, x -> x.load(0));
        CHECK.refusedIfCoded("load(0)", Checks.ARGUMENT, x -> x.load(0));
        CHECK.refusedUnlessCoded("write(0)", Checks.INDEX, x -> x.write(0));
        CHECK.refused("keep(2)", Checks.ARGUMENT, x -> x.keep(2));
        CHECK.refused("goBack(2)", Checks.ARGUMENT, x -> x.goBack(2));
        CHECK.refusedOn("goBack(0)", Checks.STATE, x -> x.goBack(0), Made::fresh, Made::rich);
        CHECK.refusedOn("undo()", Checks.STATE, x -> x.undo(), Made::fresh);
    }

    private static void throwingCallsOfLooks() {
        CHECK.refused("step(49)", Checks.INDEX, x -> x.step(49));
        CHECK.refused("sampleOf(64, 0)", Checks.INDEX, x -> x.sampleOf(64, 0));
        CHECK.refused("sampleOf(0, 6)", Checks.ARGUMENT, x -> x.sampleOf(0, 6));
        CHECK.refused("blockOf(3, 0)", Checks.INDEX, x -> x.blockOf(3, 0));
        CHECK.refusedIfCoded("blockOf(0, 6)", Checks.ARGUMENT, x -> x.blockOf(0, 6));
        CHECK.refused("count(12)", Checks.ARGUMENT, x -> x.count(12));
        CHECK.refused("setting(3)", Checks.INDEX, x -> x.setting(3));
        CHECK.refused("ifCoded(0, 49, 0, 0)", Checks.ARGUMENT, x -> x.ifCoded(0, 49, 0, 0));
        CHECK.refused("ifBlock(0, 0, 0)", Checks.INDEX, x -> x.ifBlock(0, 0, 0));
        CHECK.refused("ifBlock(0, 1, 49)", Checks.ARGUMENT, x -> x.ifBlock(0, 1, 49));
        CHECK.refused("bestStep(0, 65)", Checks.INDEX, x -> x.bestStep(0, 65));
        CHECK.refused("ifSpoiled(0, 0)", Checks.INDEX, x -> x.ifSpoiled(0, 0));
        CHECK.refusedIfCoded("ifSpoiled(1, 4)", Checks.ARGUMENT, x -> x.ifSpoiled(1, 4));
    }

    private static void firstNamed() {
        CHECK.says("If several exceptions apply, the one that is named first in the throws clause is thrown.");
        CHECK.refused("sample(64, 2048)", Checks.INDEX, x -> x.sample(64, 2048));
        CHECK.refused("set(3, -1)", Checks.INDEX, x -> x.set(3, -1));
        CHECK.refused("spoil(0, 4)", Checks.INDEX, x -> x.spoil(0, 4));
        CHECK.refusedUnlessCoded("spoil(1, 4)", Checks.INDEX, x -> x.spoil(1, 4));
        CHECK.refusedOn("append(127)", Checks.ARGUMENT, x -> x.append(127), () -> buffered(40));
        CHECK.refused("load(3)", Checks.INDEX, x -> x.load(3));
        CHECK.refusedOn("goBack(2)", Checks.ARGUMENT, x -> x.goBack(2), Made::fresh);
        CHECK.refused("sampleOf(64, 6)", Checks.INDEX, x -> x.sampleOf(64, 6));
        CHECK.refused("blockOf(3, 6)", Checks.INDEX, x -> x.blockOf(3, 6));
        CHECK.refusedUnlessCoded("blockOf(0, 6)", Checks.INDEX, x -> x.blockOf(0, 6));
        CHECK.refused("ifBlock(0, 0, 49)", Checks.INDEX, x -> x.ifBlock(0, 0, 49));
        CHECK.refused("ifBlock(64, 1, -1)", Checks.INDEX, x -> x.ifBlock(64, 1, -1));
        CHECK.refused("ifSpoiled(0, 4)", Checks.INDEX, x -> x.ifSpoiled(0, 4));
        CHECK.refusedUnlessCoded("ifSpoiled(1, 4)", Checks.INDEX, x -> x.ifSpoiled(1, 4));
    }

    private static void constants() {
        CHECK.says("The constants: `NONE = -1`: There is nothing to return.");
        CHECK.due("NONE", SteppedSamples.NONE, -1);
        CHECK.due("the code of a first sample", Made.small().sampleOf(0, 3), SteppedSamples.NONE);
        CHECK.due("a number, not coded", new SteppedSamples().sampleOf(0, 4), SteppedSamples.NONE);
    }
}
