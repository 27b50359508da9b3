import java.util.ArrayList;
import java.util.List;
import java.util.Set;

/**
 * Runs of calls on a new object, each call told as a row: "eats 0 99 = 5" answers 5, "eats 0 100 ! -6" is refused
 * with -6, "told p20550; = 1" feeds the letters and tells them as a TOWN, "fed p2 = 2" only feeds them. A row
 * without an answer is played for what it changes; min and max are the least and the greatest int.
 *
 * <p>A call that is refused, a FAULT and a call that only looks leave all as it was: for each of their rows a twin
 * that was not asked is looked at from all sides, and must not differ.
 */
final class Runs {
    /** An object is used for so many calls at most. */
    static final int MOST_CALLS = 512;
    private static final int SIDES = 5;
    private static final Set<String> LOOKS = Set.of("person", "book", "title", "over", "pan", "overThen", "then", "when",
        "first", "buy", "borrow", "taught", "couples", "heaviest", "whatKind", "two", "damp", "titles", "from", "shelf",
        "sight", "share", "byHeart", "kinds", "lots", "count");

    /** People 0 .. 2 and books 0 .. 2: a NOVEL of the town, an ATLAS of 0's, a SERMON of 1's. */
    static final String[] FEW = {"comes 20 5 50", "comes 10 3 10", "comes 5 0 1", "brings 0 5 9 0", "brings 2 4 0 1",
        "brings 3 6 1 2"};
    /** As many people, books, steps, letters, numbers in the row and changes to take back as there can be. */
    static final String[] FULL = {"comes 20 5 50", "comes 10 3 10", "comes 5 0 1", "comes 7 9 99", "comes 0 1 0",
        "comes 99 2 30", "brings 0 5 9 0", "brings 1 3 0 1", "brings 2 4 1 2", "brings 3 6 9 3", "brings 4 5 2 4",
        "brings 5 7 1 5", "brings 6 3 9 6", "brings 7 1 9 7", "brings 0 9 3 8", "brings 2 0 4 9", "image",
        "row 20", "row 10", "row 5", "row 7", "row 0", "row 99", "row -99", "row 1", "row 2", "row 3", "row 4", "row 5",
        "step 0 5", "step 1 2", "step 2 40", "step 3 1", "step 4 0", "step 7 0", "reads 0 1", "lends 0 2", "eats 2 5",
        "fed " + "w01;".repeat(24)};
    /** So many calls make it full. */
    static final int FULL_CALLS = FULL.length - 1 + 96;
    /** The last WEEK. */
    static final String[] LATE = {"weeks 60", "weeks 60", "weeks 60", "weeks 60", "weeks 60", "weeks 60", "weeks 60",
        "weeks 60", "weeks 60", "weeks 60", "weeks 60", "weeks 60", "weeks 60", "weeks 60", "weeks 60", "weeks 60",
        "weeks 39"};

    private Runs() {
    }

    /** The class, the model, or both. */
    interface Face {
        long answer(int which, int... arguments);
    }

    /** A new object that counts what it is asked. */
    private static final class Asked implements Face {
        private final WeighedInBooks x = new WeighedInBooks();
        private int calls;

        @Override
        public long answer(int which, int... arguments) {
            calls++;
            if (calls > MOST_CALLS) {
                throw new IllegalStateException("a run has more than " + MOST_CALLS + " calls");
            }
            return Calls.answer(x, which, arguments);
        }

        long call(String name, int... arguments) {
            return answer(Calls.index(name), arguments);
        }
    }

    private static final class Row {
        final String text;
        final String name;
        final String letters;
        final int[] arguments;
        final boolean isRefused;
        final boolean isAsked;
        final long due;

        Row(String text) {
            this.text = text;
            isRefused = text.contains(" ! ");
            isAsked = isRefused || text.contains(" = ");
            String[] halves = text.split(" [=!] ");
            String[] words = halves[0].split(" ");
            name = words[0];
            boolean ofLetters = name.equals("told") || name.equals("fed");
            letters = ofLetters && words.length > 1 ? words[1] : "";
            arguments = new int[ofLetters ? 0 : words.length - 1];
            for (int i = 0; i < arguments.length; i++) {
                arguments[i] = number(words[i + 1]);
            }
            long told = isAsked ? Long.parseLong(halves[1].strip()) : 0;
            due = isRefused ? refused(name, told) : told;
        }

        private static int number(String word) {
            switch (word) {
                case "min": return Integer.MIN_VALUE;
                case "max": return Integer.MAX_VALUE;
                default: return Integer.parseInt(word);
            }
        }

        private static long refused(String name, long refusal) {
            switch (name) {
                case "over":
                case "overThen": return 1000000000L - refusal;
                case "damp":
                case "share": return 4000000000000000000L - refusal;
                default: return refusal;
            }
        }

        int refusal() {
            return isRefused ? (int) (due > 1000000000000L ? 4000000000000000000L - due
                : due > 0 ? 1000000000L - due : due) : 0;
        }

        long play(Face x) {
            switch (name) {
                case "fed": return feed(x);
                case "told": feed(x); return x.answer(Calls.index("town"));
                default: return x.answer(Calls.index(name), arguments);
            }
        }

        private long feed(Face x) {
            long answer = 0;
            for (int i = 0; i < letters.length(); i++) {
                answer = x.answer(Calls.index("feed"), letters.charAt(i));
            }
            return answer;
        }

        boolean leavesAll() {
            return isRefused || isAsked && (LOOKS.contains(name) || name.equals("told") && due <= -1000);
        }
    }

    static String[] rows(Object... parts) {
        List<String> all = new ArrayList<>();
        for (Object part : parts) {
            all.addAll(part instanceof String[] many ? List.of(many) : List.of((String) part));
        }
        return all.toArray(new String[0]);
    }

    /** A test of its own of the rows told, which are strings or arrays of strings. */
    static void test(Checks checks, String name, Object... parts) {
        checks.test(name, c -> run(c, parts));
    }

    /** Plays rows for what they change. */
    static void play(Face x, Object... parts) {
        for (String text : rows(parts)) {
            new Row(text).play(x);
        }
    }

    private static void run(Checks c, Object... parts) {
        List<Row> rows = new ArrayList<>();
        for (String text : rows(parts)) {
            rows.add(new Row(text));
        }
        Model model = new Model();
        answersAreDue(c, rows, new Asked(), "");
        answersAreDue(c, rows, (which, arguments) -> Calls.answer(model, which, arguments), " of the model");
        for (int i = 0; i < rows.size(); i++) {
            if (rows.get(i).leavesAll()) {
                leavesAll(c, rows.subList(0, i), rows.get(i));
            }
        }
    }

    private static void answersAreDue(Checks c, List<Row> rows, Face x, String whose) {
        for (Row row : rows) {
            long answer = row.play(x);
            if (row.isAsked) {
                c.due(row.text + whose, answer, row.due);
            }
        }
    }

    private static void leavesAll(Checks c, List<Row> ahead, Row row) {
        for (int side = 0; side < SIDES; side++) {
            Asked asked = new Asked();
            Asked twin = new Asked();
            for (Row before : ahead) {
                before.play(asked);
                before.play(twin);
            }
            row.play(asked);
            if (side == 0) {
                for (int refusal = -6; refusal <= -1; refusal++) {
                    long more = asked.call("count", 10 - refusal) - twin.call("count", 10 - refusal);
                    c.due("refusals " + refusal + " by " + row.text, more, row.refusal() == refusal ? 1 : 0);
                }
            }
            List<Long> seen = seenFrom(side, asked);
            List<Long> twins = seenFrom(side, twin);
            c.isTrue(row.text + " leaves (side " + side + ") " + seen + ", it was " + twins, seen.equals(twins));
        }
    }

    private static List<Long> seenFrom(int side, Asked x) {
        List<Long> seen = new ArrayList<>();
        switch (side) {
            case 0: addAll(x, seen); break;
            case 1: addPast(x, seen); break;
            case 2: seen.add(x.call("restore")); addAll(x, seen); break;
            case 3: seen.add(x.call("town")); addAll(x, seen); break;
            default: addRow(x, seen);
        }
        return seen;
    }

    private static void addAll(Asked x, List<Long> seen) {
        for (int what = 0; what <= 8; what++) {
            seen.add(x.call("count", what));
        }
        int people = (int) x.call("count", 0);
        int books = (int) x.call("count", 1);
        for (int person = 0; person < people; person++) {
            for (int what = 0; what < 6; what++) {
                seen.add(x.call("person", person, what));
            }
        }
        for (int book = 0; book < books; book++) {
            for (int what = 0; what < 8; what++) {
                seen.add(x.call("book", book, what));
            }
            for (int place = 0; place < 4; place++) {
                seen.add(x.call("title", book, place));
            }
            if (people >= 2) {
                seen.add(x.call("pan", 0, 1, book));
            }
        }
    }

    private static void addPast(Asked x, List<Long> seen) {
        int many = (int) x.call("count", 7);
        for (int i = 0; i <= many; i++) {
            seen.add(x.call("back"));
            for (int what = 2; what <= 4; what++) {
                seen.add(x.call("count", what));
            }
            for (int person = 0; person < x.call("count", 0); person++) {
                seen.add(x.call("person", person, 2));
                seen.add(x.call("person", person, 3));
            }
            seen.add(x.call("shelf", 9, 2));
            seen.add(x.call("sight", 2));
            seen.add(x.call("sight", 3));
            if (x.call("count", 0) >= 2) {
                seen.add(x.call("over", 0, 1));
            }
        }
    }

    private static void addRow(Asked x, List<Long> seen) {
        if (x.call("count", 0) >= 2 && x.call("count", 1) >= 1) {
            seen.add(x.call("whatKind", 0, 1, 0, 1));
        }
        seen.add(x.call("judge"));
        seen.add(x.call("count", 6));
        seen.add(x.call("clear"));
    }
}
