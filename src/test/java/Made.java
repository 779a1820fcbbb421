/** Objects that the tests begin with. None is used for more than 512 calls, as the document promises no more. */
final class Made {
    private Made() {
    }

    static SteppedSamples fresh() {
        return new SteppedSamples();
    }

    static SteppedSamples waveOf(int... values) {
        SteppedSamples x = new SteppedSamples();
        x.wave(values.length);
        for (int k = 0; k < values.length; k++) {
            x.sample(k, values[k]);
        }
        return x;
    }

    /** These values, coded in blocks of so many samples. */
    static SteppedSamples codedBy(int blockSamples, int... values) {
        SteppedSamples x = waveOf(values);
        x.set(0, blockSamples);
        x.code();
        return x;
    }

    /** So many samples of 0, coded in blocks of so many. */
    static SteppedSamples silent(int many, int blockSamples) {
        SteppedSamples x = new SteppedSamples();
        x.wave(many);
        x.set(0, blockSamples);
        x.code();
        return x;
    }

    /**
     * 0, 100 and 50, 60 in blocks of two. With the step 0 (7), 100 gets the code 7 and becomes 0 + 7 + 3 + 1 = 11, and
     * leads to 8; with the step 8 (20), 60 from 50 gets the code 2 and becomes 50 + 2 + 10 = 62, and leads to 7.
     */
    static SteppedSamples small() {
        return codedBy(2, 0, 100, 50, 60);
    }

    /** 11 samples in blocks of 4, 4 and 3, the block 1 lost; 5 saved states, a snapshot in slot 1, and a buffer. */
    static SteppedSamples rich() {
        SteppedSamples x = new SteppedSamples();
        x.set(0, 4);
        x.wave(11);
        x.add(2, 900, 7);
        x.keep(1);
        x.code();
        x.lose(1);
        type(x, "12,3:a");
        return x;
    }

    /** As rich(), with a bit turned over, 6 saved states and two snapshots. */
    static SteppedSamples full() {
        SteppedSamples x = rich();
        x.keep(0);
        x.spoil(2, 1);
        return x;
    }

    /** Coded once, but not any more: its blocks may still lie about inside. */
    static SteppedSamples stale() {
        SteppedSamples x = new SteppedSamples();
        x.wave(11);
        x.add(1, 700, 5);
        x.code();
        x.keep(0);
        x.set(0, 8);
        type(x, "0,0:1234567");
        return x;
    }

    static void type(SteppedSamples x, String text) {
        x.clearBuffer();
        for (int k = 0; k < text.length(); k++) {
            x.append(text.charAt(k));
        }
    }

    /** Finds out what the buffer holds, by its part in the digest: only these characters answer the same digest. */
    static boolean holds(SteppedSamples x, String text) {
        long before = x.digest();
        type(x, text);
        return x.digest() == before;
    }
}
