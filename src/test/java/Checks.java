import java.util.ArrayList;
import java.util.List;

/**
 * What the tests share: the sentence of the document that is held just now, wrong answers, and calls that are refused
 * or undone, with all that they may change.
 */
final class Checks {
    interface Maker {
        SteppedSamples make();
    }

    interface Call {
        void on(SteppedSamples x);
    }

    interface CallWith {
        void on(SteppedSamples x, int argument);
    }

    static final Class<IllegalArgumentException> ARGUMENT = IllegalArgumentException.class;
    static final Class<IllegalStateException> STATE = IllegalStateException.class;
    static final Class<IndexOutOfBoundsException> INDEX = IndexOutOfBoundsException.class;

    private static final int MOST_SAVED = 6;
    private static final int SLOTS = 2;
    private static final Maker[] ANY_STATE = {Made::fresh, Made::stale, Made::rich, Made::full};
    private static final Maker[] CODED = {Made::rich, Made::full};
    private static final Maker[] NOT_CODED = {Made::fresh, Made::stale};

    private final String name;
    private final Document document = Document.read();
    private String section = "";
    private String words = "";
    private int sentences;
    private int wrong;
    private int asked;
    private int askedBefore;

    Checks(String name) {
        this.name = name;
    }

    // ---- the sentences

    void of(int promise) {
        of("Promise " + promise);
    }

    void of(String newSection) {
        endSentence();
        section = newSection;
    }

    /** What is asked from here on holds the class against these words of the document. */
    void says(String newWords) {
        endSentence();
        words = newWords;
        sentences++;
        if (document.isThere()) {
            String complaint = document.name(section, words);
            if (!complaint.isEmpty()) {
                complain(complaint);
            }
        }
    }

    private void endSentence() {
        if (!words.isEmpty() && asked == askedBefore) {
            complain("nothing is asked");
        }
        askedBefore = asked;
        words = "";
    }

    // ---- answers

    void due(String what, long got, long want) {
        dueText(what, Long.toString(got), Long.toString(want));
    }

    void holds(String what, boolean right) {
        dueText(what, Boolean.toString(right), "true");
    }

    void dueDouble(String what, double got, double want) {
        asked++;
        if (Double.doubleToLongBits(got) != Double.doubleToLongBits(want)) {
            complain(what + " answered " + got + ", due is " + want);
        }
    }

    void dueText(String what, String got, String want) {
        asked++;
        if (!got.equals(want)) {
            complain(what + " answered " + got + ", due is " + want);
        }
    }

    /** A property of the first samples, one behind the other. */
    void samples(String what, SteppedSamples x, int property, int... want) {
        StringBuilder got = new StringBuilder();
        StringBuilder due = new StringBuilder();
        for (int k = 0; k < want.length; k++) {
            got.append(' ').append(x.sampleOf(k, property));
            due.append(' ').append(want[k]);
        }
        dueText(what, got.toString(), due.toString());
    }

    // ---- calls that throw

    /** The call throws just this exception, whatever state it finds, and changes nothing. */
    void refused(String what, Class<? extends RuntimeException> want, Call call) {
        refusedOn(what, want, call, ANY_STATE);
    }

    void refusedIfCoded(String what, Class<? extends RuntimeException> want, Call call) {
        refusedOn(what, want, call, CODED);
    }

    void refusedUnlessCoded(String what, Class<? extends RuntimeException> want, Call call) {
        refusedOn(what, want, call, NOT_CODED);
    }

    void refusedOn(String what, Class<? extends RuntimeException> want, Call call, Maker... makers) {
        for (int k = 0; k < makers.length; k++) {
            SteppedSamples hit = makers[k].make();
            String where = what + " on object " + k;
            dueText(where, thrownBy(call, hit), want.getSimpleName());
            dueText(where + ", what it left", story(hit), story(makers[k].make()));
        }
    }

    private static String thrownBy(Call call, SteppedSamples x) {
        try {
            call.on(x);
        } catch (RuntimeException e) {
            return e.getClass().getSimpleName();
        }
        return "nothing";
    }

    /** The call throws; nothing is asked of it here. */
    static boolean isRefused(Call call, SteppedSamples x) {
        return !thrownBy(call, x).equals("nothing");
    }

    /** The last values that are allowed on both sides, and the first ones that are not, with some far out. */
    void range(String what, Class<? extends RuntimeException> want, int least, int most, CallWith call) {
        rangeOn(what, want, least, most, call, ANY_STATE);
    }

    void rangeIfCoded(String what, Class<? extends RuntimeException> want, int least, int most, CallWith call) {
        rangeOn(what, want, least, most, call, CODED);
    }

    void rangeOn(String what, Class<? extends RuntimeException> want, int least, int most, CallWith call,
            Maker... makers) {
        allowed(what, least, call, makers);
        allowed(what, most, call, makers);
        for (int argument : outside(least, most)) {
            refusedOn(what + " with " + argument, want, x -> call.on(x, argument), makers);
        }
    }

    private void allowed(String what, int argument, CallWith call, Maker... makers) {
        for (Maker maker : makers) {
            dueText(what + " with " + argument, thrownBy(x -> call.on(x, argument), maker.make()), "nothing");
        }
    }

    /** Just outside, and where a byte, a short or a sign would have wrapped around. */
    private static int[] outside(int least, int most) {
        return new int[] {least - 1, most + 1, least - 65536, most + 65536, Integer.MIN_VALUE, Integer.MAX_VALUE};
    }

    // ---- what calls save and change

    /** The call saves one state, that from before it, and undo() brings it back; the oldest one of 6 is dropped. */
    void undoable(String what, Call call) {
        undoableOn(what, call, ANY_STATE);
    }

    void undoableIfCoded(String what, Call call) {
        undoableOn(what, call, CODED);
    }

    void undoableOn(String what, Call call, Maker... makers) {
        for (int k = 0; k < makers.length; k++) {
            String where = what + " on object " + k;
            SteppedSamples done = makers[k].make();
            SteppedSamples calm = makers[k].make();
            int saved = calm.count(11);
            call.on(done);
            due(where + ", saved states", done.count(11), Math.min(MOST_SAVED, saved + 1));
            due(where + ", undo()", done.undo(), Math.min(MOST_SAVED - 1, saved));
            done.clearBuffer();
            calm.clearBuffer();
            if (saved == MOST_SAVED) {
                dueText(where + ", undone", statesWithOneMore(done), statesButTheOldest(calm));
            } else {
                dueText(where + ", undone", story(done), story(calm));
            }
        }
    }

    /** The call saves no state, and changes nothing but perhaps the buffer and the slots. */
    void leavesStates(String what, Call call) {
        leavesStatesOn(what, call, ANY_STATE);
    }

    void leavesStatesIfCoded(String what, Call call) {
        leavesStatesOn(what, call, CODED);
    }

    private void leavesStatesOn(String what, Call call, Maker... makers) {
        for (int k = 0; k < makers.length; k++) {
            SteppedSamples done = makers[k].make();
            SteppedSamples calm = makers[k].make();
            call.on(done);
            for (SteppedSamples x : new SteppedSamples[] {done, calm}) {
                x.clearBuffer();
                x.keep(0);
                x.keep(1);
            }
            dueText(what + " on object " + k + ", the states", story(done), story(calm));
        }
    }

    /** The call changes nothing at all. */
    void changesNothing(String what, Call call) {
        changesNothingOn(what, call, ANY_STATE);
    }

    void changesNothingIfCoded(String what, Call call) {
        changesNothingOn(what, call, CODED);
    }

    void changesNothingOn(String what, Call call, Maker... makers) {
        for (int k = 0; k < makers.length; k++) {
            SteppedSamples done = makers[k].make();
            call.on(done);
            dueText(what + " on object " + k + ", what it left", story(done), story(makers[k].make()));
        }
    }

    /** All that can be seen of an object, its saved states and its slots too, as digests; the object is used up. */
    static String story(SteppedSamples x) {
        List<Long> digests = new ArrayList<>();
        digests.add(x.digest());
        int saved = x.count(11);
        for (int k = 0; k < saved && k < MOST_SAVED; k++) {
            x.undo();
            digests.add(x.digest());
        }
        for (int slot = 0; slot < SLOTS; slot++) {
            try {
                x.goBack(slot);
                digests.add(x.digest());
            } catch (IllegalStateException e) {
                digests.add(0L);
            }
        }
        return digests.toString();
    }

    /** The digests tell how many states are saved: one that changes nothing is saved ahead of each. */
    private static String statesWithOneMore(SteppedSamples x) {
        List<Long> digests = new ArrayList<>();
        for (int k = 0; k < MOST_SAVED; k++) {
            x.set(2, x.setting(2));
            digests.add(x.digest());
            x.undo();
            if (k < MOST_SAVED - 1) {
                x.undo();
            }
        }
        return digests.toString();
    }

    private static String statesButTheOldest(SteppedSamples x) {
        List<Long> digests = new ArrayList<>();
        for (int k = 0; k < MOST_SAVED; k++) {
            digests.add(x.digest());
            x.undo();
        }
        return digests.toString();
    }

    // ---- the end

    void end() {
        endSentence();
        section = "the end";
        if (document.isThere()) {
            for (String held : Document.heldBy(name)) {
                for (String part : document.leftOut(held)) {
                    complain("no test names of " + held + ": " + part);
                }
            }
        } else {
            System.out.println(name + ": ../shared/DOC.md is not there, so the sentences are not held against it");
        }
        System.out.println(name + ": " + sentences + " sentences, " + asked + " answers, " + wrong + " wrong");
        if (wrong != 0) {
            System.exit(1);
        }
    }

    private void complain(String text) {
        wrong++;
        if (wrong <= 40) {
            System.out.println(section + ", \"" + words + "\": " + text);
        }
    }
}
