import java.util.Arrays;

/** A new object and the model side by side: what they are asked must be answered alike. */
final class Both implements Runs.Face {
    /** So many calls countAll() takes. */
    static final int COUNTS = 17;

    private final WeighedInBooks x = new WeighedInBooks();
    private final Model model = new Model();
    private final Checks checks;
    private final String name;
    private int calls;

    Both(Checks checks, String name) {
        this.checks = checks;
        this.name = name;
    }

    @Override
    public long answer(int which, int... arguments) {
        if (callsLeft() == 0) {
            throw new IllegalStateException(name + " has more than " + Runs.MOST_CALLS + " calls");
        }
        calls++;
        long answered = Calls.answer(x, which, arguments);
        checks.due(name + ", call " + calls + ": " + Calls.NAMES[which] + Arrays.toString(arguments), answered,
            Calls.answer(model, which, arguments));
        return answered;
    }

    long call(String name, int... arguments) {
        return answer(Calls.index(name), arguments);
    }

    void countAll() {
        for (int what = 0; what < COUNTS; what++) {
            call("count", what);
        }
    }

    int callsLeft() {
        return Runs.MOST_CALLS - calls;
    }

    /** What the model says is not counted: it is no call of the object. */
    Model model() {
        return model;
    }

    int people() {
        return (int) model.count(0);
    }

    int books() {
        return (int) model.count(1);
    }
}
