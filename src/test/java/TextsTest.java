/** Promises 10 to 14. */
public final class TextsTest {
    private static final Checks CHECK = new Checks("TextsTest");

    public static void main(String[] args) {
        promise10();
        promise11();
        promise12();
        promise13();
        promise13Refuses();
        promise14();
        CHECK.end();
    }

    private static void promise10() {
        SteppedSamples x = new SteppedSamples();
        for (int k = 1; k <= 40; k++) {
            CHECK.due("append " + k, x.append(k % 2 == 0 ? 33 : 126), k);
        }
        CHECK.refused("append(48) to a full buffer", x, Checks.STATE, () -> x.append(48));
        CHECK.refused("append(32) to a full buffer", x, Checks.ARGUMENT, () -> x.append(32));
        x.clearBuffer();
        for (int code : new int[] {32, 127, 0, -1, 128, 255, Integer.MIN_VALUE, Integer.MAX_VALUE}) {
            CHECK.refused("append(" + code + ")", x, Checks.ARGUMENT, () -> x.append(code));
        }
        CHECK.due("append saves nothing", x.count(11), 0);
    }

    private static void promise11() {
        SteppedSamples x = new SteppedSamples();
        CHECK.due("clearBuffer() of nothing", x.clearBuffer(), 0);
        Checks.type(x, "12,3:");
        CHECK.due("clearBuffer()", x.clearBuffer(), 5);
        CHECK.due("clearBuffer() again", x.clearBuffer(), 0);
        CHECK.due("append(48)", x.append(48), 1);
        CHECK.due("clearBuffer saves nothing", x.count(11), 0);
        x.append(44);
        x.sample(0, 1);
        x.undo();
        CHECK.due("the buffer stays in undo", x.clearBuffer(), 2);
    }

    private static void promise12() {
        error("", 0);
        String[] right = {"0", "-", "-1", "-2048", "2047", "7", "1999", "999,", "0,", "0,0", "0,48", "0,4", "0,9",
            "0,10", "0,0:", "-2048,48:0123456789abcde", "5,5:fffffffffffffff", "0,0:f"};
        for (String text : right) {
            error(text, text.length());
        }
        String[] wrongAtTheEnd = {"+", ",", ":", "a", "!", "~", "00", "01", "-0", "--", "-,", "-:", "2048", "-2049",
            "3000", "9999", "12345", "-12345", "1-", "0:", "0,,", "0,:", "0,-", "0,00", "0,05", "0,49", "0,50", "0,99",
            "0,480", "0,100", "0,0,", "0,0:g", "0,0:A", "0,0:F", "0,0::", "0,0:-", "0,0:/", "0,0:`", "0,0:0,",
            "0,0:0123456789abcdef", "0/", "0,/", "0,;"};
        for (String text : wrongAtTheEnd) {
            error(text, text.length() - 1);
        }
        error("x0,0:", 0);
        error("0,0:0G11", 5);
        error("20480,0:1", 3);
        SteppedSamples x = new SteppedSamples();
        Checks.type(x, "1,1:q");
        long before = x.digest();
        x.firstError();
        CHECK.due("firstError changes nothing", x.digest(), before);
    }

    private static void error(String text, int want) {
        SteppedSamples x = new SteppedSamples();
        Checks.type(x, text);
        CHECK.due("firstError() of " + text, x.firstError(), want);
    }

    private static void promise13() {
        SteppedSamples x = Checks.small();
        x.lose(0);
        Checks.type(x, "-5,48:f");
        int turned = x.count(10);
        CHECK.due("load(0)", x.load(0), 2);
        CHECK.samples("loaded", x, 1, 9995, 7952, 10050, 10062);
        CHECK.due("first of the header", x.blockOf(0, 1), 9995);
        CHECK.due("number of the header", x.blockOf(0, 2), 48);
        CHECK.due("not lost", x.blockOf(0, 3), 0);
        CHECK.due("code", x.sampleOf(1, 3), 15);
        CHECK.due("value stays", x.sampleOf(0, 0), 10000);
        CHECK.due("guess of the coder stays", x.sampleOf(1, 2), 10011);
        CHECK.due("start of block 1 stays", x.blockOf(1, 2), 8);
        CHECK.due("codings stay", x.count(9), 1);
        CHECK.due("turned bits stay", x.count(10), turned);
        CHECK.due("the buffer is cleared", x.clearBuffer(), 0);
        x.lose(1);
        Checks.type(x, "7,0:0");
        CHECK.due("load(0) before a lost block", x.load(0), 4);
        Checks.type(x, "7,3:1");
        CHECK.due("load(0) that changes one", x.load(0), 3);
        Checks.type(x, "50,8:2");
        CHECK.undoable("load(1)", x, () -> x.load(1));
        Checks.type(x, "51,9:1");
        CHECK.undoable("load(1) of another block", x, () -> x.load(1));
        SteppedSamples one = Checks.waveOf(3, 4, 5);
        one.set(0, 2);
        one.code();
        Checks.type(one, "-2048,0:");
        CHECK.due("load(1) without codes", one.load(1), 1);
        Checks.type(one, "-2048,48:");
        CHECK.due("load(1) of the same samples", one.load(1), 0);
        CHECK.due("its number", one.blockOf(1, 2), 48);
    }

    private static void promise13Refuses() {
        SteppedSamples x = Checks.small();
        String[] wrongTexts = {"", "0", "0,", "0,0", "0,0:", "0,0:11", "0,0:g", "-0,0:1", "00,0:1", "0,49:1", "2048,0:1",
            "0,0:1:", "0,0:1,", "0,0:0123456789abcdef"};
        for (String text : wrongTexts) {
            Checks.type(x, text);
            CHECK.refused("load(0) of " + text, x, Checks.ARGUMENT, () -> x.load(0));
        }
        for (int block : new int[] {-1, 2, 32, Integer.MIN_VALUE, Integer.MAX_VALUE}) {
            CHECK.refused("load(" + block + ")", x, Checks.INDEX, () -> x.load(block));
        }
        Checks.type(x, "0,0:1");
        CHECK.refused("load(2)", x, Checks.INDEX, () -> x.load(2));
        x.set(0, 2);
        CHECK.refused("load(0) not coded", x, Checks.INDEX, () -> x.load(0));
        CHECK.due("the buffer stays", x.clearBuffer(), 5);
    }

    private static void promise14() {
        SteppedSamples x = Checks.small();
        Checks.type(x, "some_other_text");
        int saved = x.count(11);
        CHECK.due("write(1)", x.write(1), 6);
        CHECK.due("write saves nothing", x.count(11), saved);
        CHECK.due("the text of block 1", Checks.holds(x, "50,8:2") ? 1 : 0, 1);
        CHECK.due("write(0)", x.write(0), 5);
        CHECK.due("the text of block 0", Checks.holds(x, "0,0:7") ? 1 : 0, 1);
        x.spoil(1, 3);
        x.lose(0);
        x.write(0);
        CHECK.due("the text of a lost block", Checks.holds(x, "0,0:f") ? 1 : 0, 1);
        String[] texts = {"-2048,48:0", "2047,10:a", "-1000,9:9", "1005,40:f", "-9,0:b", "90,1:c", "600,30:d"};
        for (String text : texts) {
            Checks.type(x, text);
            x.load(0);
            CHECK.due("length of " + text, x.write(0), text.length());
            CHECK.due("the text " + text, Checks.holds(x, text) ? 1 : 0, 1);
        }
        for (int block : new int[] {-1, 2, 32, Integer.MIN_VALUE, Integer.MAX_VALUE}) {
            CHECK.refused("write(" + block + ")", x, Checks.INDEX, () -> x.write(block));
        }
        x.wave(4);
        CHECK.refused("write(0) not coded", x, Checks.INDEX, () -> x.write(0));
        SteppedSamples longest = Checks.waveOf(-2048);
        longest.wave(16);
        longest.set(0, 16);
        longest.code();
        Checks.type(longest, "-1234,20:0123456789abcde");
        longest.load(0);
        CHECK.due("the longest text", longest.write(0), 24);
        CHECK.due("its error", longest.firstError(), 24);
        CHECK.due("load of what was written", longest.load(0), 0);
    }
}
