/** Promises 17 to 30: each sentence that names an edge has a test of its own, named by it. */
public final class EdgesOfMindTest {
    /** A NOVEL of 5 that 0 has: OVER of 0 and 1 is -6, and 0 when it is read. */
    private static final String[] NOVEL = {"comes 3 9 0", "comes 3 9 0", "brings 0 5 0 0"};
    /** All that only looks at two is asked behind these. */
    private static final String[] LATE_NOVEL = Runs.rows(Runs.LATE, NOVEL);

    public static void main(String[] args) {
        Checks checks = new Checks();
        over(checks);
        pan(checks);
        overThen(checks);
        then(checks);
        when(checks);
        first(checks);
        buy(checks);
        buyWhich(checks);
        borrow(checks);
        taught(checks);
        couples(checks);
        heaviest(checks);
        whatKind(checks);
        two(checks);
        damp(checks);
        behindTheLastWeek(checks);
        checks.end();
    }

    /** The five ways in which two are no two of the PEOPLE, of whom there are three. */
    private static void noTwo(Checks t, String name, String call, String more) {
        Runs.test(t, name, Runs.FEW, call + " 0 0" + more + " ! -1", call + " 2 2" + more + " ! -1", call + " 0 3" + more + " ! -1",
            call + " 3 0" + more + " ! -1", call + " 0 -1" + more + " ! -1", call + " -1 0" + more + " ! -1",
            call + " 0 9" + more + " ! -1", call + " 9 0" + more + " ! -1", call + " 3 3" + more + " ! -1",
            call + " -1 -1" + more + " ! -1", call + " min max" + more + " ! -1", call + " max 0" + more + " ! -1", "count 11 = 12");
    }

    private static void over(Checks t) {
        noTwo(t, "17: \"-1 (one twice, too)\"", "over", "");
        Runs.test(t, "17: OVER of two in both orders", Runs.FEW, "over 0 1 = -11", "over 1 0 = -11", "over 0 2 = -17",
            "over 2 0 = -17", "over 1 2 = -4", "over 2 1 = -4");
        Runs.test(t, "17: OVER of the last two of six", Runs.FULL, "over 4 5 = -96", "over 5 4 = -96", "over 4 6 ! -1");
    }

    private static void pan(Checks t) {
        noTwo(t, "18: \"-1 (one twice\"", "pan", " 0");
        Runs.test(t, "18: \"-1 (.. the BOOK)\"", Runs.FEW, "pan 0 1 3 ! -1", "pan 0 1 -1 ! -1", "pan 0 1 max ! -1",
            "pan 0 1 min ! -1", "pan 0 1 2 = 11");
        Runs.test(t, "18: were the two weighed with it, held or not", Runs.FEW, "pan 0 1 1 = 8", "pan 1 2 1 = 8", "lends 1 9",
            "pan 0 1 1 = 8", "pan 2 0 2 = 11", "reads 0 0", "pan 1 2 0 = 6", "step 5 0", "pan 1 2 0 = 0", "pan 0 2 0 = 6");
    }

    private static void overThen(Checks t) {
        noTwo(t, "19: \"-1 (one twice, too)\"", "overThen", " 0");
        Runs.test(t, "19: \"-4\"", Runs.FEW, "overThen 0 1 -1 ! -4", "overThen 0 1 min ! -4", "overThen 0 1 0 = -11");
        Runs.test(t, "19: \"-6 60\"", Runs.FEW, "overThen 0 1 61 ! -6", "overThen 0 1 max ! -6", "overThen 0 1 60 = -35");
        Runs.test(t, "19: -1 ahead of -4 and -6", Runs.FEW, "overThen 0 3 -1 ! -1", "overThen 0 0 61 ! -1", "count 11 = 2");
        Runs.test(t, "19: n 0 is now", Runs.FULL, "over 1 2 = 15", "overThen 1 2 0 = 15", "over 0 1 = 1", "overThen 1 0 0 = 1");
    }

    private static void then(Checks t) {
        Runs.test(t, "20: \"-4\"", Runs.FEW, "then -1 0 0 ! -4", "then min 0 0 ! -4", "then 0 0 0 = 20");
        Runs.test(t, "20: \"-6 60\"", Runs.FEW, "then 61 0 0 ! -6", "then max 0 0 ! -6", "then 60 0 0 = 28", "then 60 0 1 = 22",
            "then 60 0 2 = 35");
        Runs.test(t, "20: \"-2\"", Runs.FEW, "then 0 -1 0 ! -2", "then 0 3 0 ! -2", "then 0 min 0 ! -2", "then 0 max 0 ! -2");
        Runs.test(t, "20: \"-1\", of PEOPLE or of BOOKS as it is asked", "comes 5 9 0", "comes 6 9 0", "brings 0 5 9 0",
            "then 0 0 1 = 6", "then 0 0 2 ! -1", "then 0 0 -1 ! -1", "then 0 0 9 ! -1", "then 0 1 0 = 0", "then 0 1 1 ! -1",
            "then 0 1 -1 ! -1", "then 0 2 0 = 9", "then 0 2 1 ! -1", "then 0 2 -1 ! -1", "brings 0 5 9 1", "brings 0 5 9 2",
            "then 0 1 2 = 0", "then 0 2 2 = 9", "then 0 0 2 ! -1", "then 0 2 max ! -1", "then 0 0 min ! -1");
        Runs.test(t, "20: -4 and -6 ahead of -2 and -1", Runs.FEW, "then -1 3 0 ! -4", "then 61 3 0 ! -6", "then -1 0 3 ! -4",
            "then 61 1 3 ! -6", "then 61 -1 -1 ! -6");
        Runs.test(t, "20: -2 ahead of -1", Runs.FEW, "then 0 3 3 ! -2", "then 60 -1 -1 ! -2", "count 11 = 0");
        Runs.test(t, "20: READ and HOLDER, now and n WEEKS on", Runs.FEW, "lends 0 2", "lends 1 1", "then 0 1 0 = 0",
            "then 0 2 0 = 2", "then 1 1 0 = 1", "then 1 2 0 = 9", "then 1 1 1 = 1", "then 1 2 1 = 0", "then 2 1 1 = 2",
            "then 60 1 1 = 2", "then 60 2 1 = 0", "then 60 2 2 = 1");
    }

    private static void when(Checks t) {
        noTwo(t, "21: \"-1 (one twice, too)\"", "when", "");
        Runs.test(t, "21: behind 0 WEEKS, as it is 0 or more now", NOVEL, "reads 0 0", "over 0 1 = 0", "when 0 1 = 0", "when 1 0 = 0");
        Runs.test(t, "21: behind 1, as it is just 0 then", NOVEL, "when 0 1 = 1", "when 1 0 = 1", "eats 0 2", "when 0 1 = 1",
            "eats 0 4", "when 0 1 = -9");
        Runs.test(t, "21: -9, and nobody comes down ever", "comes 1 9 0", "comes 0 9 0", "when 0 1 = -9", "eats 0 0", "when 0 1 = 0");
        Runs.test(t, "21: for the first time: it may go up again, and down", "comes 1 9 0", "comes 0 9 0", "brings 2 0 0 0", "step 7 0",
            "when 0 1 = 1", "weeks 1", "when 0 1 = 0", "weeks 1", "when 0 1 = 1");
        Runs.test(t, "21: as the last of ten is read", "comes 9 9 0", "comes 1 9 0",
            "told b000a;b000b;b000c;b000d;b000e;b000f;b000g;b000h;b000i;b000j; = 10", "when 0 1 = 10", "eats 1 0", "when 0 1 = 9",
            "eats 1 2", "when 0 1 = -9");
    }

    private static void first(Checks t) {
        Runs.test(t, "22: -9 of nobody, of one", "first = -9", "comes 0 0 0", "first = -9");
        Runs.test(t, "22: of all twos for which it doesn't COME DOWN now", NOVEL, "first = 1", "reads 0 0", "first = -9");
        Runs.test(t, "22: it comes down now, not next week, but then: not of these", "comes 1 9 0", "comes 0 9 0", "brings 2 0 0 0",
            "step 7 0", "first = 1", "weeks 1", "count 8 = 1", "first = -9", "weeks 1", "first = 1");
        Runs.test(t, "22: of several the first", "comes 3 9 0", "comes 3 9 0", "comes 3 9 0", "brings 0 5 2 0", "brings 0 5 0 1",
            "first = 1", "lends 1 9", "first = 2", "eats 0 4", "first = 12");
        Runs.test(t, "22: the sooner ahead of the first", "comes 2 9 0", "comes 1 9 0", "comes 0 9 0", "brings 0 0 0 0",
            "brings 0 0 0 1", "brings 0 0 0 2", "when 0 1 = 3", "when 0 2 = 2", "when 1 2 = -9", "first = 2", "eats 2 1", "first = 1",
            "eats 2 9", "first = 1", "eats 1 9", "first = -9");
        Runs.test(t, "22: the last two of six", "comes 99 9 0", "comes 99 9 0", "comes 99 9 0", "comes 99 9 0", "comes 3 9 0",
            "comes 3 9 0", "brings 0 5 5 0", "first = 45");
    }

    private static void buy(Checks t) {
        noTwo(t, "23: \"-1 (one twice, too)\"", "buy", " 0");
        Runs.test(t, "23: \"-2\"", Runs.FEW, "buy 0 1 -1 ! -2", "buy 0 1 2 ! -2", "buy 0 1 min ! -2", "buy 0 1 max ! -2");
        Runs.test(t, "23: -1 ahead of -2", Runs.FEW, "buy 0 0 2 ! -1", "buy 0 3 -1 ! -1", "count 12 = 0");
        Runs.test(t, "23: 0, none is needed", NOVEL, "brings 7 9 9 5", "reads 0 0", "buy 0 1 0 = 0", "buy 0 1 1 = 0");
        Runs.test(t, "23: -9, without BOOKS", "comes 1 9 0", "comes 0 9 0", "buy 0 1 0 = -9", "buy 0 1 1 = -9");
        Runs.test(t, "23: -9, if all of the town's aren't enough", Runs.FEW, "reads 0 0", "reads 1 0", "eats 0 7", "eats 1 19",
            "over 0 1 = -7", "buy 0 1 0 = 1", "buy 0 1 1 = 6", "eats 1 20", "buy 0 1 0 = -9", "buy 0 1 1 = -9");
        Runs.test(t, "23: all ten", "comes 25 9 0", "comes 25 9 0",
            "told b309a;b309b;b309c;b309d;b309e;b309f;b309g;b309h;b309i;b309j; = 10", "buy 0 1 0 = 1023", "buy 0 1 1 = 10", "eats 0 24",
            "buy 0 1 0 = 1023", "eats 0 20", "buy 0 1 0 = 511", "buy 1 0 1 = 9", "eats 0 26", "buy 0 1 0 = -9");
    }

    private static void buyWhich(Checks t) {
        Runs.test(t, "23: whose OWNER is the town, whoever holds it", "comes 4 9 0", "comes 4 9 0", "comes 4 9 0", "brings 2 4 2 0",
            "brings 2 4 9 1", "buy 0 1 0 = 2", "lends 0 9", "buy 0 1 0 = 2", "lends 1 2", "buy 0 1 0 = 2", "buys 2 1 ! -3", "eats 2 0",
            "buy 0 2 0 = 0", "lends 1 9", "buy 0 2 0 = 2", "lends 1 0", "buy 0 1 0 = 0", "eats 1 5", "buy 0 1 0 = -9", "lends 1 1",
            "buy 0 1 0 = -9", "buy 1 0 0 = -9", "lends 1 9", "buy 0 1 0 = -9", "eats 1 4", "buy 0 1 0 = 2");
        Runs.test(t, "23: of the least PRICES, though it be more BOOKS", "comes 5 9 0", "comes 5 9 0", "brings 2 5 9 0", "brings 3 0 9 1",
            "brings 3 0 9 2", "buy 0 1 0 = 6", "buy 0 1 1 = 2");
        Runs.test(t, "23: of the least PRICES, though it be greater as bits", "comes 5 9 0", "comes 5 9 0", "brings 2 5 9 0",
            "brings 6 5 9 1", "buy 0 1 0 = 2", "buy 0 1 1 = 5");
        Runs.test(t, "23: of several of fewest BOOKS", "comes 2 9 0", "comes 0 9 0", "brings 5 0 9 0", "brings 5 0 9 1", "brings 7 0 9 2",
            "buy 0 1 0 = 4", "buy 0 1 1 = 0", "eats 0 1", "buy 0 1 0 = 1", "eats 0 12", "buy 0 1 0 = 7", "eats 0 13", "buy 0 1 0 = -9");
        Runs.test(t, "23: of these the least as bits", "comes 5 9 0", "comes 5 9 0", "brings 7 0 9 0", "brings 7 9 9 1", "brings 7 5 9 2",
            "buy 0 1 0 = 1", "eats 0 15", "buy 0 1 0 = 3", "eats 0 16", "buy 0 1 0 = 7", "lends 0 0", "buy 0 1 0 = 6");
        Runs.test(t, "23: what it comes to by all STEPS, as the two are weighed", "comes 5 9 0", "comes 5 9 0", "comes 0 9 0",
            "brings 2 5 9 0", "brings 7 0 9 1", "step 5 0", "buy 0 1 0 = -9", "reads 2 1", "buy 0 1 0 = -9", "reads 1 0", "buy 0 1 0 = 1",
            "buy 0 2 0 = 2");
        Runs.test(t, "23: what the one, what the other, what both have READ", "comes 9 9 0", "comes 9 9 0", "brings 2 7 9 0", "brings 2 7 9 1",
            "brings 2 9 9 2", "step 4 0", "reads 0 0", "reads 1 1", "buy 0 1 0 = 4", "eats 0 10", "buy 0 1 0 = 3", "reads 1 0",
            "buy 0 1 0 = 1", "buy 0 1 1 = 24", "buy 1 0 0 = 1", "reads 0 1", "buy 0 1 0 = 1", "lends 0 0", "eats 0 39", "buy 0 1 0 = 2");
    }

    private static void borrow(Checks t) {
        noTwo(t, "24: \"-1 (one twice, too)\"", "borrow", " 0");
        Runs.test(t, "24: \"-2\"", Runs.FEW, "borrow 0 1 -1 ! -2", "borrow 0 1 2 ! -2", "borrow 0 1 min ! -2", "borrow 0 1 max ! -2");
        Runs.test(t, "24: -1 ahead of -2", Runs.FEW, "borrow 0 0 2 ! -1", "borrow 0 3 -1 ! -1", "count 12 = 0");
        Runs.test(t, "24: -9, without BOOKS", "comes 0 9 0", "comes 0 9 0", "borrow 0 1 0 = -9", "borrow 0 1 1 = -9");
        Runs.test(t, "24: -9, if the two hold all of them, down or not", NOVEL, "borrow 0 1 0 = -9", "borrow 0 1 1 = -9", "reads 0 0",
            "count 8 = 1", "borrow 0 1 0 = -9", "borrow 0 1 1 = -9", "lends 0 1", "borrow 0 1 0 = -9", "lends 0 9", "borrow 0 1 0 = 0");
        Runs.test(t, "24: -9, if it never comes down", Runs.FEW, "eats 0 99", "borrow 0 1 0 = -9", "borrow 0 1 1 = -9");
        Runs.test(t, "24: behind 0 WEEKS, just 0", "comes 4 9 0", "comes 4 9 0", "brings 2 4 9 0", "borrow 0 1 0 = 0", "borrow 0 1 1 = 0",
            "eats 0 5", "borrow 0 1 0 = -9", "borrow 0 1 1 = -9");
        Runs.test(t, "24: soonest", "comes 3 9 0", "comes 3 9 0", "comes 0 9 0", "brings 0 5 2 0", "brings 0 5 2 1", "brings 3 1 2 2",
            "borrow 0 1 0 = 2", "borrow 0 1 1 = 0", "lends 2 0", "eats 0 6", "eats 1 6", "borrow 0 1 0 = -9", "eats 1 2",
            "borrow 0 1 0 = -9");
        // Ahead of "z" he has to read "m": 2 WEEKS; "b" he reads at once: 1; an ATLAS is as heavy unread: 0.
        Runs.test(t, "24: soonest, though it be told later, and by one WEEK alone", "comes 4 9 0", "comes 3 9 0", "brings 0 0 0 12",
            "brings 0 5 0 25", "lends 1 9", "borrow 0 1 0 = 1", "borrow 0 1 1 = 2", "brings 0 6 0 1", "lends 2 9", "borrow 0 1 0 = 2",
            "borrow 0 1 1 = 1", "brings 2 4 9 3", "borrow 0 1 0 = 3", "borrow 0 1 1 = 0");
        Runs.test(t, "24: with ten BOOKS", Runs.FULL, "borrow 0 1 0 = 0", "borrow 0 1 1 = 0", "borrow 4 5 0 = -9", "borrow 3 4 0 = 0",
            "borrow 3 4 1 = 0", "clearLaw", "borrow 3 4 0 = 2", "borrow 3 4 1 = 0", "eats 4 10", "borrow 3 4 0 = -9");
        Runs.test(t, "24: of several the least", "comes 4 9 0", "comes 4 9 0", "comes 0 9 0", "brings 2 3 9 0", "brings 2 4 9 1",
            "brings 2 9 2 2", "borrow 0 1 0 = 1", "lends 1 1", "borrow 0 1 0 = 0", "lends 0 0", "borrow 1 0 0 = 2", "lends 2 9",
            "borrow 1 0 0 = 2");
        // Held by 0, whose it is, it is read by him alone; held by 1 it is read by both.
        Runs.test(t, "24: held by the first of the two, whose BOOK it is", "comes 3 9 0", "comes 3 9 0", "brings 0 5 0 0", "lends 0 9",
            "borrow 0 1 1 = 1", "eats 0 2", "eats 1 5", "borrow 0 1 1 = -9", "borrow 1 0 1 = 2");
        Runs.test(t, "24: held by the first of the two, who has to read two", "comes 7 9 0", "comes 0 9 0", "comes 0 9 0", "brings 0 0 0 0",
            "brings 0 5 1 1", "lends 1 9", "borrow 0 1 1 = 2", "borrow 1 0 1 = 1");
    }

    private static void taught(Checks t) {
        noTwo(t, "25: \"-1 (.. the two are one)\"", "taught 0", " 0");
        Runs.test(t, "25: \"-1 (any\"", Runs.FEW, "taught 3 0 1 0 ! -1", "taught -1 0 1 0 ! -1", "taught 9 0 1 0 ! -1",
            "taught min 0 1 0 ! -1", "taught max 0 1 0 ! -1", "taught 2 0 1 0 = -9");
        Runs.test(t, "25: \"-4\"", Runs.FEW, "taught 0 0 1 -1 ! -4", "taught 0 0 1 min ! -4", "taught 0 0 1 0 = -9");
        Runs.test(t, "25: \"-6 60\"", Runs.FEW, "taught 0 0 1 61 ! -6", "taught 0 0 1 max ! -6", "taught 0 0 1 60 = 2");
        Runs.test(t, "25: -1 ahead of -4 and -6", Runs.FEW, "taught 3 0 1 -1 ! -1", "taught 0 0 0 61 ! -1", "taught 0 3 1 -1 ! -1");
        Runs.test(t, "25: -9, without BOOKS", "comes 0 9 0", "comes 0 9 0", "taught 0 0 1 0 = -9", "taught 0 0 1 60 = -9");
        Runs.test(t, "25: more than as it is: alike or less is none", "comes 3 9 0", "comes 3 9 0", "brings 2 5 0 0", "brings 3 9 0 1",
            "brings 0 5 9 2", "taught 0 0 1 0 = -9", "taught 1 0 1 0 = -9", "lends 2 1", "taught 1 0 1 0 = 2", "reads 1 2",
            "taught 1 0 1 0 = -9", "taught 0 0 1 0 = 2");
        Runs.test(t, "25: the most", "comes 3 9 0", "comes 3 9 0", "brings 0 4 0 0", "brings 0 6 0 1", "brings 0 5 0 2",
            "taught 0 0 1 0 = 1", "reads 0 1", "taught 0 0 1 0 = 2", "taught 1 0 1 0 = 2", "reads 0 2", "taught 0 0 1 0 = 0");
        Runs.test(t, "25: of several the least", "comes 3 9 0", "comes 3 9 0", "brings 0 5 1 4", "brings 0 5 0 3", "taught 0 0 1 0 = 0",
            "reads 0 0", "taught 0 0 1 0 = 1", "taught 1 0 1 0 = 1", "reads 0 1", "taught 0 0 1 0 = -9");
        Runs.test(t, "25: with ten BOOKS", Runs.FULL, "taught 5 3 4 0 = 8", "taught 5 0 5 0 = 1", "taught 5 5 1 0 = -9", "taught 3 3 4 60 = 9",
            "taught 5 0 1 60 = 1");
        Runs.test(t, "25: one who is none of the two", "comes 3 9 0", "comes 3 9 0", "comes 0 9 0", "brings 0 5 0 0", "taught 2 0 1 0 = 0",
            "taught 2 0 1 1 = 0", "taught 2 1 2 0 = -9", "reads 2 0", "taught 2 0 1 0 = -9");
        Runs.test(t, "25: behind n WEEKS: what he'd read by himself is no more", "comes 3 9 0", "comes 3 9 0", "brings 0 5 0 0",
            "taught 0 0 1 0 = 0", "taught 0 0 1 1 = -9", "taught 1 0 1 1 = 0", "taught 1 0 1 60 = 0");
    }

    private static void couples(Checks t) {
        String[] six = {"comes 0 9 0", "comes 0 9 0", "comes 0 9 0", "comes 0 9 0", "comes 0 9 0", "comes 0 9 0"};
        Runs.test(t, "26: \"-1 (person below -1, too)\"", Runs.FEW, "couples -1 = 0", "couples -2 ! -1", "couples min ! -1",
            "couples 3 ! -1", "couples 9 ! -1", "couples max ! -1", "couples 2 = -9");
        Runs.test(t, "26: nobody, one alone", "couples -1 = 0", "couples 0 ! -1", "comes 0 0 0", "couples -1 = 0", "couples 0 = -9",
            "couples 1 ! -1");
        Runs.test(t, "26: all six", six, "couples -1 = 3", "couples 0 = 1", "couples 1 = 0", "couples 2 = 3", "couples 3 = 2",
            "couples 4 = 5", "couples 5 = 4", "couples 6 ! -1");
        Runs.test(t, "26: five, the last has nobody", six, "eats 5 1", "couples -1 = 2", "couples 4 = -9", "couples 5 = -9",
            "couples 3 = 2");
        Runs.test(t, "26: who is too heavy has nobody", six, "eats 0 1", "couples -1 = 2", "couples 0 = -9", "couples 1 = 2",
            "couples 3 = 4", "couples 5 = -9");
        Runs.test(t, "26: -9 for all, if for no two it comes down", six, "eats 0 1", "eats 1 1", "eats 2 1", "eats 3 1", "eats 4 1",
            "couples -1 = 0", "couples 0 = -9", "couples 5 = -9");
        // Only with 0 does it come down: an ATLAS that 0 holds carries 1 more.
        Runs.test(t, "26: none with one of PEOPLE in common", "comes 0 9 0", "comes 1 9 0", "comes 1 9 0", "brings 2 1 0 0",
            "count 8 = 2", "couples -1 = 1", "couples 0 = 1", "couples 1 = 0", "couples 2 = -9");
        // 0 with 1, 2 and 3; 1 with 2; 3 only with 0: the most are 03 and 12, though 01 were the least partner.
        Runs.test(t, "26: the most ahead of the least partner", "comes 4 9 0", "comes 1 9 0", "comes 1 9 0", "comes 4 9 0",
            "brings 2 4 0 0", "brings 2 1 1 1", "over 0 1 = 5", "over 0 2 = 3", "over 0 3 = 0", "over 1 2 = 0", "over 1 3 = -3",
            "over 2 3 = -5", "couples -1 = 2", "couples 0 = 3", "couples 1 = 2", "couples 2 = 1", "couples 3 = 0");
        Runs.test(t, "26: only the last two of three", "comes 1 9 0", "comes 0 9 0", "comes 0 9 0", "couples -1 = 1", "couples 0 = -9",
            "couples 1 = 2", "couples 2 = 1");
        // By this LAW only an ATLAS that both have READ weighs: 01, 03, 23, 24.
        Runs.test(t, "26: the first such choice: the least partner, if as many are left", "comes 4 9 0", "comes 4 9 0", "comes 4 9 0",
            "comes 4 9 0", "comes 4 9 0", "told ldl08;b240a;r0a;r1a;b240b;r0b;r3b;b242c;r2c;r3c;b242d;r2d;r4d; = 13", "count 8 = 4",
            "couples -1 = 2", "couples 0 = 1", "couples 1 = 0", "couples 2 = 3", "couples 3 = 2", "couples 4 = -9");
        Runs.test(t, "26: asked again, as fewer come down", six, "couples -1 = 3", "couples 0 = 1", "eats 1 1", "couples -1 = 2",
            "couples 0 = 2", "couples 1 = -9", "eats 2 1", "eats 3 1", "eats 4 1", "couples -1 = 1", "couples 0 = 5", "eats 5 1",
            "couples -1 = 0", "couples 0 = -9", "eats 1 0", "couples 0 = 1");
        Runs.test(t, "26: now, not in a WEEK", NOVEL, "couples -1 = 0", "couples 0 = -9", "reads 1 0", "couples -1 = 1",
            "couples 0 = 1");
    }

    private static void heaviest(Checks t) {
        noTwo(t, "27: \"-1 (one twice, too)\"", "heaviest", " 0");
        Runs.test(t, "27: \"-4\"", Runs.FEW, "heaviest 0 1 -1 ! -4", "heaviest 0 1 min ! -4", "heaviest 0 1 0 = 2");
        Runs.test(t, "27: -1 ahead of -4", Runs.FEW, "heaviest 0 0 -1 ! -1", "heaviest 0 3 -1 ! -1", "count 14 = 0");
        Runs.test(t, "27: -9 behind the last", Runs.FEW, "heaviest 0 1 1 = 1", "heaviest 0 1 2 = -9", "heaviest 0 1 9 = -9",
            "heaviest 0 1 10 = -9", "heaviest 0 1 max = -9");
        Runs.test(t, "27: -9, nothing on the PAN", Runs.FEW, "lends 1 9", "lends 2 0", "heaviest 1 2 0 = -9");
        Runs.test(t, "27: all ten, alike ones by TITLES", "comes 1 9 0", "comes 1 9 0",
            "told b000j;b001ba;b000b;b001aa;b000a;b001i;b000h;b001g;b000f;b290e; = 10", "heaviest 0 1 0 = 9", "heaviest 0 1 1 = 4",
            "heaviest 0 1 2 = 3", "heaviest 0 1 3 = 2", "heaviest 0 1 4 = 1", "heaviest 0 1 5 = 8", "heaviest 0 1 6 = 7",
            "heaviest 0 1 7 = 6", "heaviest 0 1 8 = 5", "heaviest 0 1 9 = 0", "heaviest 0 1 10 = -9");
        Runs.test(t, "27: by what it comes to by all STEPS", Runs.FEW, "heaviest 0 1 0 = 2", "heaviest 0 1 1 = 1", "step 5 0", "reads 0 1",
            "heaviest 0 1 0 = 1", "heaviest 0 1 1 = 2", "clearLaw", "step 3 12", "heaviest 0 1 0 = 1", "clearLaw", "step 2 8",
            "heaviest 0 1 0 = 1", "clearLaw", "step 2 9", "heaviest 0 1 0 = 2");
        // Twice, if both have READ it: neither what the one has READ alone nor what the other has is the heaviest.
        Runs.test(t, "27: READ by both, by one of the two alone", "comes 1 9 0", "comes 1 9 0", "brings 2 9 0 9", "brings 2 9 0 8",
            "brings 2 5 0 7", "brings 2 9 0 6", "brings 2 9 0 5", "reads 0 0", "reads 1 1", "reads 0 2", "reads 1 2", "reads 0 3",
            "reads 1 4", "step 4 0", "heaviest 0 1 0 = 2", "heaviest 0 1 1 = 4", "heaviest 0 1 2 = 3", "heaviest 0 1 3 = 1",
            "heaviest 0 1 4 = 0", "heaviest 1 0 0 = 2", "heaviest 1 0 4 = 0");
    }

    private static void whatKind(Checks t) {
        noTwo(t, "28: \"-1 (one twice\"", "whatKind", " 0 0");
        Runs.test(t, "28: \"-1 (.. the BOOK)\"", Runs.FEW, "whatKind 0 1 3 0 ! -1", "whatKind 0 1 -1 0 ! -1", "whatKind 0 1 max 0 ! -1",
            "whatKind 0 1 min 0 ! -1");
        Runs.test(t, "28: \"-2\"", Runs.FEW, "whatKind 0 1 0 -1 ! -2", "whatKind 0 1 0 2 ! -2", "whatKind 0 1 0 min ! -2",
            "whatKind 0 1 0 max ! -2");
        Runs.test(t, "28: -1 ahead of -2", Runs.FEW, "whatKind 0 0 0 2 ! -1", "whatKind 0 1 3 2 ! -1", "count 12 = 0");
        Runs.test(t, "28: a ROW of none: all KINDS, all FIGURES", Runs.FEW, "whatKind 0 1 1 0 = 255", "whatKind 0 1 1 1 = 1023",
            "row -11", "whatKind 0 1 1 1 = 16", "clear", "whatKind 0 1 1 1 = 1023");
        Runs.test(t, "28: the ROW stays", Runs.FEW, "row -11", "row -15", "whatKind 0 1 1 0 = 4", "whatKind 0 1 1 1 = 16", "count 6 = 2",
            "whatKind 0 1 1 0 = 4", "clear = 2");
        Runs.test(t, "28: all of it is so: the first, the second", Runs.FEW, "row -11", "whatKind 0 1 1 1 = 16", "row -14",
            "whatKind 0 1 1 1 = 0", "clear", "row -10", "row -15", "whatKind 0 1 1 1 = 0");
        Runs.test(t, "28: FIGURES 0 and 9", Runs.FEW, "row -19", "whatKind 0 1 1 1 = 1", "clear", "row -1", "whatKind 0 1 1 1 = 512",
            "clear", "row 1", "whatKind 0 1 1 1 = 0", "clear", "row -20", "whatKind 0 1 1 1 = 0");
        Runs.test(t, "28: KINDS 0 and 7", Runs.FEW, "row -19", "whatKind 0 1 1 0 = 1", "clear", "row -9", "whatKind 0 1 1 0 = 128", "clear",
            "row -10", "whatKind 0 1 1 0 = 72", "clear", "row -17", "whatKind 0 1 1 0 = 18", "clear", "row -14", "whatKind 0 1 1 0 = 32");
        Runs.test(t, "28: a ROW of twelve, the last so or not", Runs.FEW, "row -11", "row -15", "row -15", "row -15", "row -15", "row -16",
            "row -16", "row -17", "row -17", "row -17", "row -18", "whatKind 0 1 1 0 = 4", "row -18", "whatKind 0 1 1 0 = 4",
            "whatKind 0 1 1 1 = 16", "row 0 ! -6", "clear = 12", "row -11", "row -15", "row -15", "row -15", "row -15", "row -16",
            "row -16", "row -17", "row -17", "row -17", "row -18", "row -17", "whatKind 0 1 1 0 = 0");
        Runs.test(t, "28: OVER at both ends of the ROW", "comes 50 9 0", "comes 49 9 0", "brings 2 9 9 0", "row -99",
            "whatKind 0 1 0 0 = 255", "whatKind 0 1 0 1 = 1023", "lends 0 0", "whatKind 0 1 0 1 = 1", "eats 0 0", "eats 1 0", "step 0 81",
            "clear", "row 99", "whatKind 0 1 0 1 = 512");
        Runs.test(t, "28: a BOOK that is none of theirs", Runs.FEW, "row -11", "whatKind 0 1 0 0 = 255", "whatKind 0 1 0 1 = 1023", "clear",
            "row -12", "whatKind 0 1 0 0 = 0", "whatKind 0 1 0 1 = 0");
    }

    private static void two(Checks t) {
        noTwo(t, "29: \"-1 (one twice, too)\"", "two", " 1");
        Runs.test(t, "29: \"-4 1\"", Runs.FEW, "two 0 1 0 ! -4", "two 0 1 -1 ! -4", "two 0 1 min ! -4", "two 0 1 1 = 11");
        Runs.test(t, "29: \"-6 30\"", Runs.FEW, "two 0 1 31 ! -6", "two 0 1 max ! -6", "two 0 1 30 = 11");
        Runs.test(t, "29: -1 ahead of -4 and -6", Runs.FEW, "two 0 0 0 ! -1", "two 0 3 31 ! -1", "count 11 = 2");
        String[] three = {"comes 0 9 0", "comes 0 9 0", "told b009a;b009b;b009c;h0a;h0b;h0c; = 6"};
        Runs.test(t, "29: 2 more if he gives: 2 BOOKS are as good, 3 are more", three, "two 0 1 1 = 11", "two 0 1 2 = 1",
            "two 1 0 2 = 10", "two 0 1 3 = 1", "two 1 0 3 = 10", "two 0 1 30 = 1");
        Runs.test(t, "29: the first pair: both keep, if that is as good", three, "told b009d;b009e;h1d;h1e; = 4", "two 0 1 1 = 11",
            "two 0 1 2 = 0", "two 0 1 3 = 0", "two 0 1 30 = 0");
        // If 1 gave them back, 0 would have READ "q" and "r", and 2 more: but 0 alone has none by giving.
        Runs.test(t, "29: by another choice alone", three, "told b009d;b009e;b009f;h1d;h1e;h1f;b000q;b000r;h1q;h1r; = 10", "two 0 1 3 = 0",
            "two 1 0 3 = 0", "two 0 1 1 = 11", "two 0 1 30 = 0");
        Runs.test(t, "29: what he holds and owns he keeps", "comes 0 9 0", "comes 0 9 0", "told b000a;b000b;b000c; = 3", "two 0 1 3 = 11",
            "two 0 1 30 = 11");
        Runs.test(t, "29: what he has READ already counts with both choices", three, "reads 0 0", "two 0 1 30 = 1", "reads 0 1",
            "two 0 1 30 = 11");
        Runs.test(t, "29: with ten BOOKS, of which he holds the last", Runs.FULL, "lends 9 0", "two 0 1 1 = 11", "two 0 1 30 = 11",
            "two 2 0 30 = 11", "lends 3 0", "lends 6 0", "two 0 1 30 = 1", "two 0 1 1 = 11", "two 0 1 2 = 1", "two 1 0 3 = 10");
        Runs.test(t, "29: nothing held", "comes 0 9 0", "comes 0 9 0", "two 0 1 1 = 11", "two 0 1 30 = 11");
    }

    private static void damp(Checks t) {
        noTwo(t, "30: \"-1 (one twice, too)\"", "damp", " 0 2 0");
        Runs.test(t, "30: \"-4 (n; t below 2)\"", Runs.FEW, "damp 0 1 -1 2 0 ! -4", "damp 0 1 min 2 0 ! -4", "damp 0 1 0 1 0 ! -4",
            "damp 0 1 0 0 0 ! -4", "damp 0 1 0 -1 0 ! -4", "damp 0 1 0 min 0 ! -4", "damp 0 1 0 2 1 = 1");
        Runs.test(t, "30: \"-6 (7; 20)\"", Runs.FEW, "damp 0 1 8 2 0 ! -6", "damp 0 1 max 2 0 ! -6", "damp 0 1 0 21 0 ! -6",
            "damp 0 1 0 max 0 ! -6", "damp 0 1 7 20 1 = 1");
        Runs.test(t, "30: \"-2\"", Runs.FEW, "damp 0 1 7 20 -1 ! -2", "damp 0 1 0 2 2 ! -2", "damp 0 1 0 2 min ! -2",
            "damp 0 1 0 2 max ! -2");
        Runs.test(t, "30: -1 ahead of all", Runs.FEW, "damp 0 0 -1 1 2 ! -1", "damp 0 3 8 21 2 ! -1", "count 11 = 2");
        Runs.test(t, "30: -4 ahead of -6 and -2", Runs.FEW, "damp 0 1 -1 21 2 ! -4", "damp 0 1 8 1 2 ! -4", "damp 0 1 -1 2 2 ! -4",
            "count 14 = 3");
        Runs.test(t, "30: -6 ahead of -2", Runs.FEW, "damp 0 1 8 2 2 ! -6", "damp 0 1 7 21 -1 ! -6", "count 16 = 2");
        Runs.test(t, "30: 0 WEEKS: it does or it doesn't", NOVEL, "damp 0 1 0 2 0 = 0", "damp 0 1 0 2 1 = 1", "reads 0 0",
            "damp 0 1 0 20 0 = 1", "damp 0 1 0 20 1 = 1");
        Runs.test(t, "30: odds 1 in 2, 1 in 20, 7 WEEKS", NOVEL, "damp 0 1 1 2 0 = 1", "damp 0 1 1 2 1 = 2", "damp 0 1 1 20 0 = 19",
            "damp 0 1 1 20 1 = 20", "damp 0 1 7 2 0 = 127", "damp 0 1 7 2 1 = 128", "damp 0 1 7 20 0 = 1279999999",
            "damp 0 1 7 20 1 = 1280000000");
        Runs.test(t, "30: 0 as 0 over 1, certain as 1 over 1", NOVEL, "eats 0 9", "damp 0 1 7 20 0 = 0", "damp 0 1 7 20 1 = 1", "eats 0 0",
            "eats 1 0", "damp 0 1 7 20 0 = 1", "damp 0 1 7 20 1 = 1");
        // Both novels must be read: two dry weeks of three.
        Runs.test(t, "30: in lowest terms", "comes 4 9 0", "comes 4 9 0", "brings 0 3 0 0", "brings 0 3 0 1", "damp 0 1 3 2 0 = 1",
            "damp 0 1 3 2 1 = 2", "damp 0 1 3 4 0 = 27", "damp 0 1 3 4 1 = 32", "damp 0 1 2 10 0 = 81", "damp 0 1 2 10 1 = 100");
        Runs.test(t, "30: in damp WEEKS they eat", "comes 3 0 0", "comes 3 9 0", "brings 0 5 0 0", "damp 0 1 1 2 0 = 1",
            "damp 0 1 2 2 0 = 0", "eats 0 2", "damp 0 1 2 2 0 = 3", "damp 0 1 2 2 1 = 4", "eats 0 98", "eats 1 99", "damp 0 1 7 2 0 = 0");
        Runs.test(t, "30: in damp WEEKS the WEEK goes on", "comes 1 9 0", "comes 0 9 0", "brings 2 0 0 0", "step 7 0", "damp 0 1 6 3 0 = 0",
            "damp 0 1 7 3 0 = 1", "damp 0 1 7 3 1 = 1");
    }

    private static void behindTheLastWeek(Checks t) {
        Runs.test(t, "19: WEEK may pass 999", LATE_NOVEL, "overThen 0 1 0 = -6", "overThen 0 1 1 = 0", "overThen 0 1 2 = -2",
            "overThen 0 1 60 = -12");
        Runs.test(t, "20: WEEK may pass 999", LATE_NOVEL, "then 1 1 0 = 1", "then 60 1 0 = 1", "then 1 0 0 = 3", "then 2 0 0 = 4",
            "then 60 0 1 = 9");
        Runs.test(t, "21: WEEK may pass 999", LATE_NOVEL, "when 0 1 = 1");
        Runs.test(t, "22: WEEK may pass 999", LATE_NOVEL, "first = 1");
        Runs.test(t, "24: WEEK may pass 999", LATE_NOVEL, "lends 0 9", "borrow 0 1 0 = 0", "borrow 0 1 1 = 1");
        Runs.test(t, "25: WEEK may pass 999", LATE_NOVEL, "taught 1 0 1 60 = 0", "taught 0 0 1 60 = -9");
        Runs.test(t, "28: WEEK may pass 999", LATE_NOVEL, "row -6", "row 0", "row -2", "whatKind 0 1 0 0 = 1", "whatKind 0 1 0 1 = 32");
        Runs.test(t, "29: WEEK may pass 999", LATE_NOVEL, "two 0 1 30 = 11");
        Runs.test(t, "30: WEEK may pass 999", LATE_NOVEL, "damp 0 1 1 2 0 = 1", "damp 0 1 1 2 1 = 2", "damp 0 1 2 2 0 = 0");
        Runs.test(t, "II: in mind: nothing is so then", LATE_NOVEL, "overThen 0 1 60", "then 60 1 0", "when 0 1", "first", "borrow 0 1 0",
            "taught 1 0 1 60", "whatKind 0 1 0 0", "two 0 1 30", "damp 0 1 7 2 0", "lots 20 5 0", "count 2 = 999", "book 0 4 = 0",
            "book 0 3 = 0", "over 0 1 = -6", "count 7 = 0");
    }
}
