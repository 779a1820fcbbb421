import java.util.ArrayDeque;
import java.util.ArrayList;
import java.util.Arrays;
import java.util.Deque;
import java.util.List;
import java.util.regex.Matcher;
import java.util.regex.Pattern;

/**
 * The document told a second time, without care for speed or room and in other ways than the class: states that are
 * copied whole, blocks as lists, texts read by a pattern. It has the class's calls under the same names.
 */
final class PlainModel {
    private static final String FIRST = "(0|-2048|-?(?:20[0-3][0-9]|204[0-7]|1[0-9]{3}|[1-9][0-9]{0,2}))";
    private static final Pattern BLOCK = Pattern.compile(FIRST + ",([0-9]|[1-3][0-9]|4[0-8]):([0-9a-f]{0,15})");

    private static final int[] STEPS = steps();

    private static int[] steps() {
        int[] steps = new int[49];
        steps[0] = 7;
        for (int number = 1; number <= 48; number++) {
            steps[number] = steps[number - 1] + steps[number - 1] / 10 + 1;
        }
        return steps;
    }

    private static final class Block {
        int first;
        int number;
        boolean lost;
        List<Integer> codes = new ArrayList<>();

        Block copy() {
            Block other = new Block();
            other.first = first;
            other.number = number;
            other.lost = lost;
            other.codes = new ArrayList<>(codes);
            return other;
        }
    }

    private static final class State {
        int[] wave = new int[32];
        int[] settings = {8, 0, 0};
        List<Block> blocks;
        int[] guesses;
        int codings;
        int turned;

        State copy() {
            State other = new State();
            other.wave = wave.clone();
            other.settings = settings.clone();
            other.guesses = guesses == null ? null : guesses.clone();
            other.codings = codings;
            other.turned = turned;
            if (blocks != null) {
                other.blocks = new ArrayList<>();
                for (Block block : blocks) {
                    other.blocks.add(block.copy());
                }
            }
            return other;
        }
    }

    /** What a code leads to. */
    private record Next(int guess, int number) {
    }

    private State now = new State();
    private final State[] slots = new State[2];
    private final Deque<State> saved = new ArrayDeque<>();
    private String buffer = "";

    // ---- waves

    int wave(int many) {
        argument(many >= 1 && many <= 64);
        save();
        int had = now.wave.length;
        now.wave = new int[many];
        now.blocks = null;
        return had;
    }

    int sample(int sample, int value) {
        index(sample >= 0 && sample < now.wave.length);
        argument(inRange(value));
        save();
        int had = now.wave[sample];
        now.wave[sample] = value;
        now.blocks = null;
        return had + 10000;
    }

    int add(int kind, int height, int period) {
        argument(kind >= 0 && kind <= 2 && height >= 0 && height <= 2047 && period >= 1 && period <= 64);
        save();
        int clipped = 0;
        for (int k = 0; k < now.wave.length; k++) {
            int f = k % period;
            long up = kind == 1 ? 2L * f - period : 4L * Math.abs(f - Math.floorDiv(period, 2)) - period;
            long shape = towardsZero(height * up, period);
            if (kind == 0) {
                shape = 2 * f < period ? height : -height;
            }
            long sum = now.wave[k] + shape;
            if (sum < -2048 || sum > 2047) {
                clipped++;
            }
            now.wave[k] = (int) Math.max(-2048, Math.min(2047, sum));
        }
        now.blocks = null;
        return clipped;
    }

    private static long towardsZero(long number, long by) {
        return Long.signum(number) * Math.floorDiv(Math.abs(number), by);
    }

    int take() {
        state(now.blocks != null);
        save();
        int[] made = made();
        int others = others(now.wave, made);
        now.wave = made;
        now.blocks = null;
        return others;
    }

    int set(int setting, int value) {
        index(setting >= 0 && setting <= 2);
        int least = setting == 0 ? 2 : 0;
        int most = new int[] {16, 1, 2}[setting];
        argument(value >= least && value <= most);
        save();
        int had = now.settings[setting];
        now.settings[setting] = value;
        if (setting < 2) {
            now.blocks = null;
        }
        return had;
    }

    // ---- codes

    int code() {
        save();
        now.blocks = new ArrayList<>();
        now.guesses = new int[now.wave.length];
        int leads = 0;
        for (int start = 0; start < now.wave.length; start += now.settings[0]) {
            int many = Math.min(now.settings[0], now.wave.length - start);
            Block block = blockFrom(start, many, now.settings[1] == 1 ? bestStep(start, many) : leads);
            now.blocks.add(block);
            System.arraycopy(madeOf(block), 0, now.guesses, start, many);
            leads = numbersOf(block)[many - 1];
        }
        now.codings++;
        return now.blocks.size();
    }

    private Block blockFrom(int start, int many, int number) {
        Block block = new Block();
        block.first = now.wave[start];
        block.number = number;
        Next next = new Next(block.first, number);
        for (int k = start + 1; k < start + many; k++) {
            int code = codeFor(next, now.wave[k]);
            block.codes.add(code);
            next = follow(next, code);
        }
        return block;
    }

    int lose(int block) {
        index(hasBlock(block));
        save();
        now.blocks.get(block).lost ^= true;
        return lostOnes();
    }

    int spoil(int sample, int bit) {
        index(hasCode(sample));
        argument(bit >= 0 && bit <= 3);
        save();
        now.turned++;
        return turn(sample, bit);
    }

    private int turn(int sample, int bit) {
        List<Integer> codes = now.blocks.get(sample / now.settings[0]).codes;
        int at = sample % now.settings[0] - 1;
        codes.set(at, codes.get(at) ^ (1 << bit));
        return codes.get(at);
    }

    // ---- texts, snapshots

    int append(int code) {
        argument(code >= 33 && code <= 126);
        state(buffer.length() < 40);
        buffer += (char) code;
        return buffer.length();
    }

    int clearBuffer() {
        int had = buffer.length();
        buffer = "";
        return had;
    }

    int firstError() {
        for (int many = 1; many <= buffer.length(); many++) {
            Matcher matcher = BLOCK.matcher(buffer.substring(0, many));
            if (!matcher.matches() && !matcher.hitEnd()) {
                return many - 1;
            }
        }
        return buffer.length();
    }

    int load(int block) {
        index(hasBlock(block));
        Matcher matcher = BLOCK.matcher(buffer);
        argument(matcher.matches() && matcher.group(3).length() == now.blocks.get(block).codes.size());
        save();
        int[] before = made();
        Block loaded = new Block();
        loaded.first = Integer.parseInt(matcher.group(1));
        loaded.number = Integer.parseInt(matcher.group(2));
        for (char sign : matcher.group(3).toCharArray()) {
            loaded.codes.add(Character.digit(sign, 16));
        }
        now.blocks.set(block, loaded);
        buffer = "";
        return others(before, made());
    }

    int write(int block) {
        index(hasBlock(block));
        Block told = now.blocks.get(block);
        buffer = told.first + "," + told.number + ":";
        for (int code : told.codes) {
            buffer += Integer.toHexString(code);
        }
        return buffer.length();
    }

    int keep(int slot) {
        argument(slot == 0 || slot == 1);
        slots[slot] = now.copy();
        return now.wave.length;
    }

    int goBack(int slot) {
        argument(slot == 0 || slot == 1);
        state(slots[slot] != null);
        save();
        now = slots[slot].copy();
        return now.wave.length;
    }

    int undo() {
        state(!saved.isEmpty());
        now = saved.pop();
        return saved.size();
    }

    private void save() {
        saved.push(now.copy());
        if (saved.size() > 6) {
            saved.removeLast();
        }
    }

    // ---- looks

    int step(int number) {
        index(number >= 0 && number <= 48);
        return STEPS[number];
    }

    int sampleOf(int sample, int what) {
        index(sample >= 0 && sample < now.wave.length);
        argument(what >= 0 && what <= 5);
        if (what == 0) {
            return now.wave[sample] + 10000;
        }
        if (now.blocks == null) {
            return -1;
        }
        Block block = now.blocks.get(sample / now.settings[0]);
        int at = sample % now.settings[0];
        switch (what) {
            case 1:
                return made()[sample] + 10000;
            case 2:
                return now.guesses[sample] + 10000;
            case 3:
                return at == 0 ? -1 : block.codes.get(at - 1);
            case 4:
                return block.lost ? -1 : numbersOf(block)[at];
            default:
                return now.wave[sample] - made()[sample] + 10000;
        }
    }

    int blockOf(int block, int what) {
        index(hasBlock(block));
        argument(what >= 0 && what <= 5);
        Block told = now.blocks.get(block);
        int many = told.codes.size() + 1;
        int start = block * now.settings[0];
        int[] answers = {many, told.first + 10000, told.number, told.lost ? 1 : 0,
            error(Arrays.copyOfRange(now.wave, start, start + many), Arrays.copyOfRange(made(), start, start + many)),
            numbersOf(told)[many - 1]};
        return answers[what];
    }

    int count(int what) {
        argument(what >= 0 && what <= 11);
        boolean coded = now.blocks != null;
        int many = now.wave.length;
        int blocks = coded ? now.blocks.size() : 0;
        int[] made = coded ? made() : now.wave;
        int greatest = 0;
        for (int k = 0; k < many; k++) {
            greatest = Math.max(greatest, Math.max(now.wave[k] - made[k], made[k] - now.wave[k]));
        }
        int error = error(now.wave, made);
        int same = coded ? many - others(now.wave, made) : 0;
        int bits = coded ? 18 * blocks + 4 * (many - blocks) : 0;
        int[] answers = {many, coded ? 1 : 0, blocks, lostOnes(), error, error, greatest, same, bits, now.codings,
            now.turned, saved.size()};
        return answers[what];
    }

    int setting(int setting) {
        index(setting >= 0 && setting <= 2);
        return now.settings[setting];
    }

    // ---- what would be

    int ifCoded(int guess, int number, int value, int what) {
        argument(inRange(guess) && number >= 0 && number <= 48 && inRange(value) && what >= 0 && what <= 2);
        Next here = new Next(guess, number);
        int code = codeFor(here, value);
        Next next = follow(here, code);
        return what == 0 ? code : what == 1 ? next.guess() + 10000 : next.number();
    }

    int ifBlock(int first, int many, int number) {
        index(first >= 0 && many >= 1 && (long) first + many <= now.wave.length);
        argument(number >= 0 && number <= 48);
        Block block = blockFrom(first, many, number);
        return error(Arrays.copyOfRange(now.wave, first, first + many), madeOf(block));
    }

    int bestStep(int first, int many) {
        index(first >= 0 && many >= 1 && (long) first + many <= now.wave.length);
        int best = 48;
        for (int number = 48; number >= 0; number--) {
            if (ifBlock(first, many, number) <= ifBlock(first, many, best)) {
                best = number;
            }
        }
        return best;
    }

    int ifSpoiled(int sample, int bit) {
        index(hasCode(sample));
        argument(bit >= 0 && bit <= 3);
        int[] before = made();
        turn(sample, bit);
        int[] after = made();
        turn(sample, bit);
        return others(before, after);
    }

    double meanSquare() {
        return now.blocks == null ? 0.0 : (double) count(4) / now.wave.length;
    }

    float loudness() {
        if (now.blocks == null) {
            return 0.0f;
        }
        long squares = 0;
        for (int value : now.wave) {
            squares += (long) value * value;
        }
        return count(4) == 0 ? -1.0f : (float) squares / (float) count(4);
    }

    long digest() {
        List<Long> list = new ArrayList<>();
        for (int what = 0; what <= 11; what++) {
            list.add((long) count(what));
        }
        for (int setting = 0; setting <= 2; setting++) {
            list.add((long) setting(setting));
        }
        for (int sample = 0; sample < now.wave.length; sample++) {
            for (int what = 0; what <= 5; what++) {
                list.add((long) sampleOf(sample, what));
            }
        }
        for (int block = 0; block < count(2); block++) {
            for (int what = 0; what <= 5; what++) {
                list.add((long) blockOf(block, what));
            }
        }
        list.add((long) bestStep(0, now.wave.length));
        for (int sample = 0; sample < now.wave.length; sample++) {
            if (hasCode(sample)) {
                list.add((long) ifSpoiled(sample, 3));
            }
        }
        list.add(Double.doubleToLongBits(meanSquare()));
        list.add((long) Float.floatToIntBits(loudness()));
        list.add(slots[0] != null ? 1L : 0L);
        list.add(slots[1] != null ? 1L : 0L);
        list.add((long) buffer.length());
        for (char sign : buffer.toCharArray()) {
            list.add((long) sign);
        }
        long hash = 3329;
        for (long value : list) {
            hash = 31 * hash + value;
        }
        return hash;
    }

    String buffer() {
        return buffer;
    }

    // ---- the rules of the terms

    private static int codeFor(Next here, int value) {
        int s = STEPS[here.number()];
        int d = value - here.guess();
        int e = d < 0 ? -d : d;
        String bits = d < 0 ? "1" : "0";
        for (int part : new int[] {s, s / 2, s / 4}) {
            bits += e >= part ? "1" : "0";
            e -= e >= part ? part : 0;
        }
        return Integer.parseInt(bits, 2);
    }

    private static Next follow(Next here, int code) {
        int s = STEPS[here.number()];
        int change = s / 8 + (code / 4 % 2) * s + (code / 2 % 2) * (s / 2) + (code % 2) * (s / 4);
        int guess = here.guess() + (code >= 8 ? -change : change);
        int number = here.number() + new int[] {-1, -1, -1, -1, 2, 4, 6, 8}[code % 8];
        return new Next(Math.max(-2048, Math.min(2047, guess)), Math.max(0, Math.min(48, number)));
    }

    private static int[] madeOf(Block block) {
        int[] made = new int[block.codes.size() + 1];
        Next next = new Next(block.first, block.number);
        made[0] = next.guess();
        for (int k = 1; k < made.length; k++) {
            next = follow(next, block.codes.get(k - 1));
            made[k] = next.guess();
        }
        return made;
    }

    private static int[] numbersOf(Block block) {
        int[] numbers = new int[block.codes.size() + 1];
        Next next = new Next(block.first, block.number);
        numbers[0] = next.number();
        for (int k = 1; k < numbers.length; k++) {
            next = follow(next, block.codes.get(k - 1));
            numbers[k] = next.number();
        }
        return numbers;
    }

    private int[] made() {
        int[] all = new int[now.wave.length];
        int[] before = new int[0];
        int at = 0;
        for (Block block : now.blocks) {
            int[] made = block.lost ? filled(before, block.codes.size() + 1) : madeOf(block);
            System.arraycopy(made, 0, all, at, made.length);
            at += made.length;
            before = made;
        }
        return all;
    }

    private int[] filled(int[] before, int many) {
        int[] made = new int[many];
        if (now.settings[2] == 0) {
            Arrays.fill(made, before.length == 0 ? 0 : before[before.length - 1]);
        }
        if (now.settings[2] == 2) {
            made = Arrays.copyOf(before, many);
        }
        return made;
    }

    private int lostOnes() {
        int lost = 0;
        for (int block = 0; now.blocks != null && block < now.blocks.size(); block++) {
            lost += now.blocks.get(block).lost ? 1 : 0;
        }
        return lost;
    }

    private boolean hasBlock(int block) {
        return now.blocks != null && block >= 0 && block < now.blocks.size();
    }

    private boolean hasCode(int sample) {
        return now.blocks != null && sample >= 0 && sample < now.wave.length && sample % now.settings[0] != 0;
    }

    private static int others(int[] these, int[] those) {
        int others = 0;
        for (int k = 0; k < these.length; k++) {
            others += these[k] != those[k] ? 1 : 0;
        }
        return others;
    }

    private static int error(int[] these, int[] those) {
        int error = 0;
        for (int k = 0; k < these.length; k++) {
            error += (these[k] - those[k]) * (these[k] - those[k]);
        }
        return error;
    }

    private static boolean inRange(int value) {
        return value >= -2048 && value <= 2047;
    }

    private static void argument(boolean right) {
        if (!right) {
            throw new IllegalArgumentException();
        }
    }

    private static void index(boolean right) {
        if (!right) {
            throw new IndexOutOfBoundsException();
        }
    }

    private static void state(boolean right) {
        if (!right) {
            throw new IllegalStateException();
        }
    }
}
