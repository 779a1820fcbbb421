/** All promises: long runs of calls, right ones and wrong ones, on the class and on the plain model side by side. */
public final class ModelTest {
    private static final Checks CHECK = new Checks("ModelTest");
    private static final int RUNS = 120;
    private static final int CALLS = 512;
    private static final int[] EDGES = {-2049, -2048, -1, 0, 1, 2, 3, 15, 16, 17, 31, 32, 48, 49, 63, 64, 65, 2047,
        2048, Integer.MIN_VALUE, Integer.MAX_VALUE};
    private static final String SIGNS = "-0123456789,:abcdefg";

    /** The longest text that is typed here, the buffer cleared and looked at, and the call behind it. */
    private static final int CALLS_OF_A_TEXT = 27;

    private long seed;
    private final SteppedSamples x = new SteppedSamples();
    private final PlainModel model = new PlainModel();
    private boolean askModel;
    /** The call that is made of both; its arguments are chosen once. */
    private int call;
    private final int[] arguments = new int[4];
    /** Of the class's object alone. */
    private int calls;

    private ModelTest(int run) {
        seed = 77777L * run + 5;
    }

    public static void main(String[] args) {
        CHECK.of("What it is");
        CHECK.says("Samples squeezed to four bits by steps that grow and shrink with the wave: waves of samples, a table "
            + "of steps, guesses that are clipped, codes of a sign and three bits, blocks with headers, a coder that "
            + "walks as the decoder will, the best start of a block, lost blocks and how they are filled, codes that are "
            + "spoiled and how far that spreads, blocks told as texts with errors by place, errors and noise told in two "
            + "ways, snapshots and undo.");
        for (int run = 0; run < RUNS; run++) {
            new ModelTest(run).go("run " + run, CALLS / 2);
        }
        CHECK.says("An object is used for at most 512 calls after it has been made; what later calls answer is free.");
        for (int run = RUNS; run < 2 * RUNS; run++) {
            ModelTest test = new ModelTest(run);
            test.go("run " + run, CALLS);
            CHECK.due("calls of run " + run, test.calls, CALLS);
        }
        CHECK.end();
    }

    /** The last call is digest(), which looks at all. */
    private void go(String run, int most) {
        while (calls < most - 1) {
            choose();
            compare(run + ", call " + calls, most);
        }
        calls++;
        CHECK.due("digest of " + run, x.digest(), model.digest());
    }

    private int pick(int many) {
        seed = seed * 6364136223846793005L + 1442695040888963407L;
        return (int) ((seed >>> 33) % many);
    }

    /** Mostly an argument that is right, sometimes one at the edge or far out. */
    private int between(int least, int most) {
        if (pick(25) == 0) {
            return EDGES[pick(EDGES.length)];
        }
        return least + pick(most - least + 1);
    }

    private static final int[] WEIGHTED = {
        0, 1, 1, 1, 2, 2, 2, 2, 3, 4, 5, 5, 5, 5, 5, 5, 6, 6, 6, 7, 7, 7, 8, 8, 9, 10, 10, 10, 10, 11, 11, 11, 11, 12,
        13, 14, 15, 15, 16, 17, 17, 17, 18, 18, 19, 19, 20, 21, 22, 23, 23, 24, 25, 26, 27
    };

    private void choose() {
        call = WEIGHTED[pick(WEIGHTED.length)];
        int many = model.count(0);
        int blocks = Math.max(1, model.count(2));
        switch (call) {
            case 0 -> arguments(between(1, 64), 0, 0, 0);
            case 1 -> arguments(between(0, many - 1), between(-2048, 2047), 0, 0);
            case 2 -> arguments(between(0, 2), between(0, pick(3) == 0 ? 2047 : 300), between(1, 64), 0);
            case 4 -> arguments(between(0, 2), between(0, pick(2) == 0 ? 2 : 16), 0, 0);
            case 6, 10, 11 -> arguments(between(0, blocks - 1), 0, 0, 0);
            case 7, 23 -> arguments(between(0, many - 1), between(0, 3), 0, 0);
            case 8 -> arguments(pick(9) == 0 ? between(33, 126) : SIGNS.charAt(pick(SIGNS.length())), 0, 0, 0);
            case 12, 13 -> arguments(between(0, 1), 0, 0, 0);
            case 15 -> arguments(between(0, 48), 0, 0, 0);
            case 16 -> arguments(between(0, many - 1), between(0, 5), 0, 0);
            case 17 -> arguments(between(0, blocks - 1), between(0, 5), 0, 0);
            case 18 -> arguments(between(0, 11), 0, 0, 0);
            case 19 -> arguments(between(0, 2), 0, 0, 0);
            case 20 -> arguments(between(-2048, 2047), between(0, 48), between(-2048, 2047), between(0, 2));
            case 21 -> arguments(between(0, many - 1), between(1, many), between(0, 48), 0);
            case 22 -> arguments(between(0, many - 1), between(1, many), 0, 0);
            default -> arguments(0, 0, 0, 0);
        }
    }

    private void arguments(int a, int b, int c, int d) {
        arguments[0] = a;
        arguments[1] = b;
        arguments[2] = c;
        arguments[3] = d;
    }

    private void compare(String where, int most) {
        if (call == 10 && pick(4) != 0 && calls + CALLS_OF_A_TEXT < most) {
            typeBlock(where, arguments[0]);
        }
        calls++;
        askModel = false;
        String got = answer();
        askModel = true;
        String want = answer();
        CHECK.dueText(where + ": call " + call + java.util.Arrays.toString(arguments), got, want);
    }

    /** Puts a text into both buffers that mostly fits the block. */
    private void typeBlock(String where, int block) {
        int codes = block >= 0 && block < model.count(2) ? model.blockOf(block, 0) - 1 : pick(16);
        StringBuilder text = new StringBuilder();
        text.append(pick(4097) - 2048).append(',').append(pick(50)).append(':');
        for (int k = pick(20) == 0 ? 1 : 0; k < codes; k++) {
            text.append(Integer.toHexString(pick(16)));
        }
        Made.type(x, text.toString());
        calls += 2 + text.length();
        model.clearBuffer();
        for (char sign : text.toString().toCharArray()) {
            model.append(sign);
        }
        CHECK.due(where + ": firstError() of " + text, x.firstError(), model.firstError());
    }

    private String answer() {
        try {
            return askModel ? ofModel() : ofClass();
        } catch (RuntimeException e) {
            return e.getClass().getName();
        }
    }

    private String ofClass() {
        int a = arguments[0];
        int b = arguments[1];
        int c = arguments[2];
        return "" + switch (call) {
            case 0 -> x.wave(a);
            case 1 -> x.sample(a, b);
            case 2 -> x.add(a, b, c);
            case 3 -> x.take();
            case 4 -> x.set(a, b);
            case 5 -> x.code();
            case 6 -> x.lose(a);
            case 7 -> x.spoil(a, b);
            case 8 -> x.append(a);
            case 9 -> x.firstError();
            case 10 -> x.load(a);
            case 11 -> x.write(a);
            case 12 -> x.keep(a);
            case 13 -> x.goBack(a);
            case 14 -> x.undo();
            case 15 -> x.step(a);
            case 16 -> x.sampleOf(a, b);
            case 17 -> x.blockOf(a, b);
            case 18 -> x.count(a);
            case 19 -> x.setting(a);
            case 20 -> x.ifCoded(a, b, c, arguments[3]);
            case 21 -> x.ifBlock(a, b, c);
            case 22 -> x.bestStep(a, b);
            case 23 -> x.ifSpoiled(a, b);
            case 24 -> Double.doubleToLongBits(x.meanSquare());
            case 25 -> Float.floatToIntBits(x.loudness());
            case 26 -> x.digest();
            default -> x.clearBuffer();
        };
    }

    private String ofModel() {
        int a = arguments[0];
        int b = arguments[1];
        int c = arguments[2];
        return "" + switch (call) {
            case 0 -> model.wave(a);
            case 1 -> model.sample(a, b);
            case 2 -> model.add(a, b, c);
            case 3 -> model.take();
            case 4 -> model.set(a, b);
            case 5 -> model.code();
            case 6 -> model.lose(a);
            case 7 -> model.spoil(a, b);
            case 8 -> model.append(a);
            case 9 -> model.firstError();
            case 10 -> model.load(a);
            case 11 -> model.write(a);
            case 12 -> model.keep(a);
            case 13 -> model.goBack(a);
            case 14 -> model.undo();
            case 15 -> model.step(a);
            case 16 -> model.sampleOf(a, b);
            case 17 -> model.blockOf(a, b);
            case 18 -> model.count(a);
            case 19 -> model.setting(a);
            case 20 -> model.ifCoded(a, b, c, arguments[3]);
            case 21 -> model.ifBlock(a, b, c);
            case 22 -> model.bestStep(a, b);
            case 23 -> model.ifSpoiled(a, b);
            case 24 -> Double.doubleToLongBits(model.meanSquare());
            case 25 -> Float.floatToIntBits(model.loudness());
            case 26 -> model.digest();
            default -> model.clearBuffer();
        };
    }
}
