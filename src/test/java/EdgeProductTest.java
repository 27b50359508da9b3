/**
 * Every call with every choice of edges for its arguments, on a new object, on few, on a full one and in the last
 * WEEK, against the model: what is refused first, what just isn't refused, and how many REFUSALS there were.
 */
public final class EdgeProductTest {
    private static final int MIN = Integer.MIN_VALUE;
    private static final int MAX = Integer.MAX_VALUE;

    public static void main(String[] args) {
        Checks checks = new Checks();
        String[][] states = {{}, Runs.FEW, Runs.FULL, Runs.rows(Runs.LATE, Runs.FEW)};
        String[] names = {"a new object", "few", "a full one", "the last WEEK"};
        for (int i = 0; i < states.length; i++) {
            String[] state = states[i];
            for (String call : Calls.NAMES) {
                checks.test("edges of " + call + "() on " + names[i], c -> product(c, state, call));
            }
        }
        checks.end();
    }

    /** Just outside, at both ends, and far outside. */
    private static int[] ends(int least, int greatest) {
        return new int[] {least - 1, least, greatest, greatest + 1, MIN, MAX};
    }

    private static int[] numbered(int many) {
        return new int[] {-1, 0, Math.max(0, many - 1), many, 9, MIN, MAX};
    }

    private static int[][] edges(String call, int[] person, int[] book) {
        switch (call) {
            case "feed": return new int[][] {ends(0, 255)};
            case "person": return new int[][] {person, ends(0, 5)};
            case "book": return new int[][] {book, ends(0, 7)};
            case "title": return new int[][] {book, ends(0, 4)};
            case "comes": return new int[][] {ends(0, 99), ends(0, 9), ends(0, 99)};
            case "brings": return new int[][] {ends(0, 7), ends(0, 9), person, ends(0, 25)};
            case "eats": return new int[][] {person, ends(0, 99)};
            case "reads":
            case "buys": return new int[][] {person, book};
            case "lends": return new int[][] {book, person};
            case "step": return new int[][] {ends(0, 7), ends(0, 99)};
            case "weeks": return new int[][] {ends(1, 60)};
            case "over":
            case "when":
            case "byHeart": return new int[][] {person, person};
            case "pan": return new int[][] {person, person, book};
            case "overThen": return new int[][] {person, person, ends(0, 60)};
            case "then": return new int[][] {ends(0, 60), ends(0, 2), person};
            default: return edgesOfMore(call, person, book);
        }
    }

    private static int[][] edgesOfMore(String call, int[] person, int[] book) {
        switch (call) {
            case "buy":
            case "borrow": return new int[][] {person, person, ends(0, 1)};
            case "taught": return new int[][] {person, person, person, ends(0, 60)};
            case "couples": return new int[][] {{-2, -1, 0, 1, person[2], person[3], 9, MIN, MAX}};
            case "heaviest": return new int[][] {person, person, ends(0, 10)};
            case "whatKind": return new int[][] {person, person, book, ends(0, 1)};
            case "two": return new int[][] {person, person, ends(1, 30)};
            case "damp": return new int[][] {person, person, ends(0, 7), ends(2, 20), ends(0, 1)};
            case "titles": return new int[][] {book, ends(0, 1)};
            case "from": return new int[][] {ends(0, 25)};
            case "shelf": return new int[][] {person, ends(0, 3)};
            case "sight": return new int[][] {ends(0, 3)};
            case "share": return new int[][] {person, ends(0, 1)};
            case "kinds": return new int[][] {ends(0, 7)};
            case "row": return new int[][] {ends(-99, 99)};
            case "lots": return new int[][] {ends(1, 20), {0, 1, -1, MIN, MAX}, ends(0, 1)};
            case "count": return new int[][] {{-1, 0, 8, 9, 10, 11, 16, 17, MIN, MAX}};
            default: return new int[][] {};
        }
    }

    private static void product(Checks c, String[] state, String call) {
        Both both = began(c, state);
        int[][] edges = edges(call, numbered(both.people()), numbered(both.books()));
        int all = 1;
        for (int[] of : edges) {
            all *= of.length;
        }
        for (int i = 0; i < all; i++) {
            int[] arguments = new int[edges.length];
            int rest = i;
            for (int k = edges.length - 1; k >= 0; k--) {
                arguments[k] = edges[k][rest % edges[k].length];
                rest /= edges[k].length;
            }
            if (both.callsLeft() <= Both.COUNTS) {
                both.countAll();
                both = began(c, state);
            }
            both.call(call, arguments);
        }
        both.countAll();
    }

    private static Both began(Checks c, String[] state) {
        Both both = new Both(c, "an edge");
        Runs.play(both, (Object) state);
        return both;
    }
}
