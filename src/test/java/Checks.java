import java.util.ArrayList;
import java.util.List;

/** Collects what is due and what was answered, and tells each test's outcome on a line for .ci/run. */
final class Checks {
    /** One test: it throws nothing itself, but what the class throws counts as a failure. */
    interface Test {
        void run(Checks checks);
    }

    /** A call that doesn't end must fail its test, not hold up all others. */
    private static final long MOST_SECONDS = 240;

    private final List<String> wrong = new ArrayList<>();
    private volatile String running = "the first test";
    private int failedTests;

    Checks() {
        Thread watch = new Thread(this::watch);
        watch.setDaemon(true);
        watch.start();
    }

    private void watch() {
        try {
            Thread.sleep(1000 * MOST_SECONDS);
            System.out.println("not ok " + running + ": it doesn't end");
            System.out.flush();
            Runtime.getRuntime().halt(1);
        } catch (InterruptedException ended) {
            Thread.currentThread().interrupt();
        }
    }

    void due(String call, long answered, long due) {
        if (answered != due) {
            wrong.add(call + " answered " + answered + ", due is " + due);
        }
    }

    void isTrue(String what, boolean so) {
        if (!so) {
            wrong.add(what);
        }
    }

    void test(String name, Test test) {
        running = name;
        wrong.clear();
        try {
            test.run(this);
        } catch (RuntimeException thrown) {
            wrong.add("threw " + thrown);
        }
        if (wrong.isEmpty()) {
            System.out.println("ok " + name);
        } else {
            failedTests++;
            System.out.println("not ok " + name + ": " + wrong.size() + " wrong, the first: " + wrong.get(0));
        }
    }

    void end() {
        System.exit(failedTests == 0 ? 0 : 1);
    }

    /** Feeds a text and tells it as a TOWN. */
    static int told(WeighedInBooks x, String text) {
        for (int i = 0; i < text.length(); i++) {
            x.feed(text.charAt(i));
        }
        return x.town();
    }

    static WeighedInBooks town(String... texts) {
        WeighedInBooks x = new WeighedInBooks();
        for (String text : texts) {
            int answer = told(x, text);
            if (answer < 0) {
                throw new IllegalArgumentException("no TOWN: " + text + " (" + answer + ")");
            }
        }
        return x;
    }
}
