/**
 * Two yards that get the same calls, but for those that are refused: only the first one gets these.
 * So at the end the two tell whether a refused call changed anything, the saved states included.
 */
final class Twins {
    interface Call {
        long on(ScaffoldYard y);
    }

    static final Class<IndexOutOfBoundsException> INDEX = IndexOutOfBoundsException.class;
    static final Class<IllegalArgumentException> ARGUMENT = IllegalArgumentException.class;
    static final Class<IllegalStateException> STATE = IllegalStateException.class;
    static final int LOW = Integer.MIN_VALUE;
    static final int HIGH = Integer.MAX_VALUE;
    /** What later calls answer is free. */
    private static final int MOST_CALLS = 512;

    private final String name;
    private final ScaffoldYard asked = new ScaffoldYard();
    private final ScaffoldYard spared = new ScaffoldYard();
    /** How many calls the first one has had. */
    private int calls;

    Twins(String name) {
        this.name = name;
    }

    Twins due(String what, long want, Call call) {
        tally(1);
        Check.same(name + ": " + what, want, call.on(asked));
        Check.same(name + ": " + what + " (not asked for what is refused)", want, call.on(spared));
        return this;
    }

    Twins after(Call call) {
        tally(1);
        Check.same(name + ": the same calls", call.on(spared), call.on(asked));
        return this;
    }

    Twins refuses(String what, Class<? extends RuntimeException> want, Call call) {
        tally(3);
        long before = asked.digest();
        Check.fails(name + ": " + what, want, () -> call.on(asked));
        Check.same(name + ": " + what + " changes nothing", before, asked.digest());
        return this;
    }

    Twins write(String text) {
        for (char c : text.toCharArray()) {
            after(y -> y.append(c));
        }
        return this;
    }

    /** Days pass, at most 99 in a call. */
    Twins passTo(int day) {
        for (int left = day - asked.count(3); left > 0; left -= 99) {
            int days = Math.min(left, 99);
            after(y -> y.pass(days));
        }
        tally(1);
        return this;
    }

    /** The two are the same, and so are all of their saved states. */
    void end() {
        after(ScaffoldYard::digest);
        int saved = spared.count(9);
        tally(1);
        for (int left = saved - 1; left >= 0; left--) {
            due("saved states left", left, ScaffoldYard::undo);
            after(ScaffoldYard::digest);
        }
        refuses("no saved state is left", STATE, ScaffoldYard::undo);
    }

    private void tally(int more) {
        calls += more;
        if (calls > MOST_CALLS) {
            Check.report(name + ": the test itself asks for more than " + MOST_CALLS + " calls");
        }
    }
}
