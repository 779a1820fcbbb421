/** What the tests share: counting wrong answers, refused calls, and a small wave whose answers were reckoned by hand. */
final class Checks {
    /** Numbers that no argument of the face may ever be. */
    static final int[] FAR_OUT = {-2, Integer.MIN_VALUE, Integer.MAX_VALUE, Integer.MAX_VALUE - 1, 1 << 20};

    static final Class<IllegalArgumentException> ARGUMENT = IllegalArgumentException.class;
    static final Class<IllegalStateException> STATE = IllegalStateException.class;
    static final Class<IndexOutOfBoundsException> INDEX = IndexOutOfBoundsException.class;

    private final String name;
    private int wrong;
    private int asked;

    Checks(String name) {
        this.name = name;
    }

    void due(String what, long got, long want) {
        asked++;
        if (got != want) {
            complain(what + " answered " + got + ", due is " + want);
        }
    }

    void dueDouble(String what, double got, double want) {
        asked++;
        if (Double.doubleToLongBits(got) != Double.doubleToLongBits(want)) {
            complain(what + " answered " + got + ", due is " + want);
        }
    }

    void dueText(String what, String got, String want) {
        asked++;
        if (!got.equals(want)) {
            complain(what + " answered " + got + ", due is " + want);
        }
    }

    /** The call throws just this exception, and changes nothing. */
    void refused(String what, SteppedSamples x, Class<? extends RuntimeException> want, Runnable call) {
        asked++;
        long before = x.digest();
        Class<?> got = null;
        try {
            call.run();
        } catch (RuntimeException e) {
            got = e.getClass();
        }
        if (got != want) {
            complain(what + " threw " + got + ", due is " + want);
        }
        due(what + " left the digest", x.digest(), before);
    }

    /** The call saves one state, and undo brings back all that was there before it. */
    void undoable(String what, SteppedSamples x, Runnable call) {
        long before = stateOf(x);
        int saved = x.count(11);
        call.run();
        due(what + " saved states", x.count(11), Math.min(6, saved + 1));
        x.undo();
        due(what + " undone", stateOf(x), before);
    }

    /** All but the buffer, the slots and the saved states, as a hash. */
    static long stateOf(SteppedSamples x) {
        long hash = 17;
        for (int what = 0; what < 11; what++) {
            hash = 1000003 * hash + x.count(what);
        }
        for (int setting = 0; setting < 3; setting++) {
            hash = 1000003 * hash + x.setting(setting);
        }
        for (int sample = 0; sample < x.count(0); sample++) {
            for (int what = 0; what < 6; what++) {
                hash = 1000003 * hash + x.sampleOf(sample, what);
            }
        }
        for (int block = 0; block < x.count(2); block++) {
            for (int what = 0; what < 6; what++) {
                hash = 1000003 * hash + x.blockOf(block, what);
            }
        }
        return hash;
    }

    void samples(String what, SteppedSamples x, int property, int... want) {
        StringBuilder got = new StringBuilder();
        StringBuilder due = new StringBuilder();
        for (int k = 0; k < want.length; k++) {
            got.append(' ').append(x.sampleOf(k, property));
            due.append(' ').append(want[k]);
        }
        dueText(what, got.toString(), due.toString());
    }

    void end() {
        System.out.println(name + ": " + asked + " answers, " + wrong + " wrong");
        if (wrong != 0) {
            System.exit(1);
        }
    }

    private void complain(String text) {
        wrong++;
        if (wrong <= 20) {
            System.out.println(name + ": " + text);
        }
    }

    static SteppedSamples waveOf(int... values) {
        SteppedSamples x = new SteppedSamples();
        x.wave(values.length);
        for (int k = 0; k < values.length; k++) {
            x.sample(k, values[k]);
        }
        return x;
    }

    /**
     * 0, 100 and 50, 60 in blocks of two. With the step 0 (7), 100 gets the code 7 and becomes 0 + 7 + 3 + 1 = 11, and
     * leads to 8; with the step 8 (20), 60 from 50 gets the code 2 and becomes 50 + 2 + 10 = 62, and leads to 7.
     */
    static SteppedSamples small() {
        SteppedSamples x = waveOf(0, 100, 50, 60);
        x.set(0, 2);
        x.code();
        return x;
    }

    static void type(SteppedSamples x, String text) {
        x.clearBuffer();
        for (int k = 0; k < text.length(); k++) {
            x.append(text.charAt(k));
        }
    }

    /** Finds out what the buffer holds, by its part in the digest: only these characters answer the same digest. */
    static boolean holds(SteppedSamples x, String text) {
        long before = x.digest();
        type(x, text);
        return x.digest() == before;
    }
}
