import java.util.Random;

/** Runs by lot on the class and on the model: every answer must be alike. Seeds are fixed. */
public final class ModelTest {
    private static final int RUNS = 900;
    private static final long[] ASKED = new long[Calls.NAMES.length];
    private static final long[] GRANTED = new long[Calls.NAMES.length];

    public static void main(String[] args) {
        int runs = args.length > 0 ? Integer.parseInt(args[0]) : RUNS;
        long seed = args.length > 1 ? Long.parseLong(args[1]) : 20261118L;
        Checks checks = new Checks();
        checks.test("runs by lot answer as the model", c -> {
            for (int run = 0; run < runs; run++) {
                run(c, seed + run);
            }
        });
        checks.test("every call was granted often", c -> {
            for (int which = 0; which < ASKED.length; which++) {
                c.isTrue(Calls.NAMES[which] + " was granted " + GRANTED[which] + " times of " + ASKED[which],
                    GRANTED[which] > ASKED[which] / 10 && GRANTED[which] > runs / 5);
            }
        });
        checks.end();
    }

    private static void run(Checks c, long seed) {
        Random lot = new Random(seed);
        Both both = new Both(c, "seed " + seed);
        if (lot.nextInt(4) > 0) {
            settle(both, lot);
        }
        // A text, a row and a look at the counts take less than 150 calls.
        while (both.callsLeft() > 150) {
            if (lot.nextInt(both.callsLeft() > 450 ? 4 : 40) == 0) {
                tell(both, lot);
            } else {
                int which = calmer(lot, lot.nextInt(Calls.NAMES.length));
                ask(both, which, Calls.arguments(lot, which, both.people(), both.books()));
            }
            both.call("count", lot.nextInt(17));
            if (lot.nextInt(20) == 0) {
                tellRow(both, lot);
            }
        }
        takeAllBack(both);
        both.countAll();
    }

    /** A town in which much can come down: light people, many books, most of them lent. */
    private static void settle(Both both, Random lot) {
        int people = 2 + lot.nextInt(5);
        int books = 3 + lot.nextInt(8);
        int greatest = 4 + lot.nextInt(20);
        for (int i = 0; i < people; i++) {
            both.call("comes", lot.nextInt(greatest), lot.nextInt(10), lot.nextInt(40));
        }
        for (int i = 0; i < books; i++) {
            int owner = lot.nextBoolean() ? 9 : lot.nextInt(people);
            int kind = lot.nextInt(8);
            both.call("brings", kind, lot.nextInt(10), owner, (i * 7 + 3) % 26);
            if (lot.nextInt(3) > 0) {
                both.call("lends", i, lot.nextInt(people));
            }
            if (lot.nextInt(4) == 0) {
                both.call("reads", lot.nextInt(people), i);
            }
        }
        for (int i = lot.nextInt(4); i > 0; i--) {
            both.call("step", lot.nextInt(8), lot.nextInt(12));
        }
    }

    /** These end what other calls build up: by lot they would come too often. */
    private static int calmer(Random lot, int which) {
        String name = Calls.NAMES[which];
        boolean calm = name.equals("feed") || name.equals("town") || name.equals("restore") || name.equals("judge");
        return calm && lot.nextInt(6) > 0 ? Calls.index("count") : which;
    }

    private static void tell(Both both, Random lot) {
        String text = Calls.text(lot, both.people());
        for (int i = 0; i < text.length(); i++) {
            ask(both, Calls.index("feed"), text.charAt(i));
        }
        ask(both, Calls.index("town"));
    }

    /** A row as it will be, so that whatKind() and judge() find what is so. */
    private static void tellRow(Both both, Random lot) {
        int people = both.people();
        int books = both.books();
        if (people < 2 || books == 0) {
            return;
        }
        int one = lot.nextInt(people);
        int other = (one + 1 + lot.nextInt(people - 1)) % people;
        ask(both, Calls.index("clear"));
        int length = lot.nextInt(5);
        boolean weights = lot.nextBoolean();
        for (int i = 0; i < length; i++) {
            long v = weights ? both.model().person(Math.min(i, people - 1), 0) : both.model().overThen(one, other, i);
            ask(both, Calls.index("row"), (int) (lot.nextInt(12) == 0 ? v + 1 : v));
        }
        if (weights) {
            ask(both, Calls.index("judge"));
        } else {
            int book = lot.nextInt(books);
            ask(both, Calls.index("whatKind"), one, other, book, 0);
            ask(both, Calls.index("whatKind"), one, other, book, 1);
        }
    }

    private static void takeAllBack(Both both) {
        for (int i = 0; i <= 8; i++) {
            both.call("back");
            both.call("count", 2 + i % 3);
            both.call("sight", 2 + i % 2);
        }
    }

    private static void ask(Both both, int which, int... arguments) {
        long answered = both.answer(which, arguments);
        ASKED[which]++;
        boolean refused = answered < 0 && answered > -9 || answered > 1000000000 && answered < 1000000007
            || answered > 4000000000000000000L;
        GRANTED[which] += refused ? 0 : 1;
    }
}
