import java.util.Random;

/** Runs by lot on the class and on the model: every answer must be alike. Seeds are fixed. */
public final class ModelTest {
    private static final int RUNS = 400;
    private static final int CALLS = 512;
    private static final long[] ASKED = new long[Calls.NAMES.length];
    private static final long[] GRANTED = new long[Calls.NAMES.length];

    public static void main(String[] args) {
        int runs = args.length > 0 ? Integer.parseInt(args[0]) : RUNS;
        long seed = args.length > 1 ? Long.parseLong(args[1]) : 20261118L;
        Checks checks = new Checks();
        checks.test("runs by lot answer as the model", c -> {
            for (int run = 0; run < runs; run++) {
                run(c, seed + run);
            }
        });
        checks.test("every call was granted often", c -> {
            for (int which = 0; which < ASKED.length; which++) {
                c.isTrue(Calls.NAMES[which] + " was granted " + GRANTED[which] + " times of " + ASKED[which],
                    GRANTED[which] > ASKED[which] / 10 && GRANTED[which] > runs / 2);
            }
        });
        checks.end();
    }

    private static void run(Checks c, long seed) {
        Random lot = new Random(seed);
        WeighedInBooks x = new WeighedInBooks();
        Model m = new Model();
        int made = lot.nextInt(4) == 0 ? 0 : settle(c, seed, x, m, lot);
        while (made < CALLS) {
            int people = x.count(0);
            int books = x.count(1);
            if (lot.nextInt(made < 60 ? 3 : 40) == 0) {
                String text = Calls.text(lot, people);
                for (int i = 0; i < text.length(); i++) {
                    same(c, seed, x, m, 0, new int[] {text.charAt(i)});
                }
                same(c, seed, x, m, 1, new int[0]);
                made += text.length() + 1;
            } else {
                int which = calmer(lot, lot.nextInt(Calls.NAMES.length));
                same(c, seed, x, m, which, Calls.arguments(lot, which, people, books));
                made++;
            }
            if (lot.nextInt(20) == 0) {
                tellRow(c, seed, x, m, lot);
            }
        }
    }

    /** A town in which much can come down: light people, many books, most of them lent. */
    private static int settle(Checks c, long seed, WeighedInBooks x, Model m, Random lot) {
        int people = 2 + lot.nextInt(5);
        int books = 3 + lot.nextInt(8);
        int greatest = 4 + lot.nextInt(20);
        for (int i = 0; i < people; i++) {
            same(c, seed, x, m, index("comes"), new int[] {lot.nextInt(greatest), lot.nextInt(10), lot.nextInt(40)});
        }
        for (int i = 0; i < books; i++) {
            int owner = lot.nextBoolean() ? 9 : lot.nextInt(people);
            int kind = lot.nextInt(8);
            same(c, seed, x, m, index("brings"), new int[] {kind, lot.nextInt(10), owner, (i * 7 + 3) % 26});
            if (lot.nextInt(3) > 0) {
                same(c, seed, x, m, index("lends"), new int[] {i, lot.nextInt(people)});
            }
            if (lot.nextInt(4) == 0) {
                same(c, seed, x, m, index("reads"), new int[] {lot.nextInt(people), i});
            }
        }
        for (int i = lot.nextInt(4); i > 0; i--) {
            same(c, seed, x, m, index("step"), new int[] {lot.nextInt(8), lot.nextInt(12)});
        }
        return people + 2 * books;
    }

    /** These end what other calls build up: by lot they would come too often. */
    private static int calmer(Random lot, int which) {
        String name = Calls.NAMES[which];
        boolean calm = name.equals("feed") || name.equals("town") || name.equals("restore") || name.equals("judge");
        return calm && lot.nextInt(6) > 0 ? Calls.NAMES.length - 1 : which;
    }

    /** A row as it will be, so that whatKind() and judge() find what is so. */
    private static void tellRow(Checks c, long seed, WeighedInBooks x, Model m, Random lot) {
        int people = x.count(0);
        int books = x.count(1);
        if (people < 2 || books == 0) {
            return;
        }
        int one = lot.nextInt(people);
        int other = (one + 1 + lot.nextInt(people - 1)) % people;
        same(c, seed, x, m, index("clear"), new int[0]);
        int length = lot.nextInt(5);
        boolean weights = lot.nextBoolean();
        for (int i = 0; i < length; i++) {
            int v = weights ? x.person(Math.min(i, people - 1), 0) : x.overThen(one, other, i);
            same(c, seed, x, m, index("row"), new int[] {lot.nextInt(12) == 0 ? v + 1 : v});
        }
        if (weights) {
            same(c, seed, x, m, index("judge"), new int[0]);
        } else {
            int book = lot.nextInt(books);
            same(c, seed, x, m, index("whatKind"), new int[] {one, other, book, 0});
            same(c, seed, x, m, index("whatKind"), new int[] {one, other, book, 1});
        }
    }

    private static int index(String name) {
        for (int i = 0; i < Calls.NAMES.length; i++) {
            if (Calls.NAMES[i].equals(name)) {
                return i;
            }
        }
        throw new IllegalArgumentException(name);
    }

    private static void same(Checks c, long seed, WeighedInBooks x, Model m, int which, int[] a) {
        long answered = Calls.answer(x, which, a);
        c.due("seed " + seed + ", " + Calls.NAMES[which] + java.util.Arrays.toString(a), answered,
            Calls.answer(m, which, a));
        for (int what = 0; what <= 16; what++) {
            c.due("seed " + seed + ", behind " + Calls.NAMES[which] + java.util.Arrays.toString(a) + " count("
                + what + ")", x.count(what), m.count(what));
        }
        ASKED[which]++;
        boolean refused = answered < 0 && answered > -9 || answered > 1000000000 && answered < 1000000007
            || answered > 4000000000000000000L;
        GRANTED[which] += refused ? 0 : 1;
    }
}
