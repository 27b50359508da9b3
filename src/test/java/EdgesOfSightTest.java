/** Promises 31 to 44: each sentence that names an edge has a test of its own, named by it. */
public final class EdgesOfSightTest {
    public static void main(String[] args) {
        Checks checks = new Checks();
        titles(checks);
        from(checks);
        shelf(checks);
        closest(checks);
        sight(checks);
        share(checks);
        byHeart(checks);
        kinds(checks);
        row(checks);
        judge(checks);
        clear(checks);
        lots(checks);
        image(checks);
        count(checks);
        checks.end();
    }

    private static void titles(Checks t) {
        String[] some = {"told b009zz;b009a;b009zzzz;b009aa; = 4"};
        Runs.test(t, "31: RANK 0 of the first, the greatest of the last", some, "titles 1 0 = 0", "titles 3 0 = 1", "titles 0 0 = 2",
            "titles 2 0 = 3");
        Runs.test(t, "31: the BOOK behind it, -9 behind the last", some, "titles 1 1 = 3", "titles 3 1 = 0", "titles 0 1 = 2",
            "titles 2 1 = -9");
        Runs.test(t, "31: the nearest that there can be", "told b009zzzy;b009zzzz;b009zzz;b009zz; = 4", "titles 0 1 = 1", "titles 2 1 = 0",
            "titles 3 1 = 2", "titles 1 1 = -9", "titles 0 0 = 2");
        Runs.test(t, "31: of one alone", "brings 0 0 9 7", "titles 0 0 = 0", "titles 0 1 = -9");
        Runs.test(t, "31: of ten", Runs.FULL, "titles 0 0 = 0", "titles 9 0 = 9", "titles 8 1 = 9", "titles 9 1 = -9");
        Runs.test(t, "31: \"-1\"", some, "titles -1 0 ! -1", "titles 4 0 ! -1", "titles min 0 ! -1", "titles max 0 ! -1");
        Runs.test(t, "31: \"-2\"", some, "titles 0 -1 ! -2", "titles 0 2 ! -2", "titles 0 min ! -2", "titles 0 max ! -2");
        Runs.test(t, "31: -1 ahead of -2", some, "titles 4 2 ! -1", "titles -1 -1 ! -1", "count 12 = 0");
    }

    private static void from(Checks t) {
        Runs.test(t, "32: \"-4\"", Runs.FEW, "from -1 ! -4", "from min ! -4", "from 0 = 0");
        Runs.test(t, "32: \"-6 25\"", Runs.FEW, "from 26 ! -6", "from max ! -6", "from 25 = -9");
        Runs.test(t, "32: that is the letter, or begins with it, or is behind it", "told b009cb;b009c;b009ca;b009x; = 4", "from 0 = 1",
            "from 1 = 1", "from 2 = 1", "from 3 = 3", "from 23 = 3", "from 24 = -9");
        Runs.test(t, "32: that begins with it, the first of these", "told b009cb;b009bzzz;b009ca; = 3", "from 1 = 1", "from 2 = 2",
            "from 3 = -9");
        Runs.test(t, "32: a and z", "told b009zzzz; = 1", "from 25 = 0", "from 0 = 0", "told b009aaaa; = 1", "from 0 = 1", "from 1 = 0",
            "told b009z; = 1", "from 25 = 2");
        Runs.test(t, "32: -9, without BOOKS", "from 0 = -9", "from 25 = -9");
    }

    private static void shelf(Checks t) {
        Runs.test(t, "33: \"-1 (9 is the town)\"", Runs.FEW, "shelf -1 0 ! -1", "shelf 3 0 ! -1", "shelf 8 0 ! -1", "shelf 10 0 ! -1",
            "shelf min 0 ! -1", "shelf max 0 ! -1", "shelf 9 0 = 1", "shelf 2 0 = 0");
        Runs.test(t, "33: \"-2\"", Runs.FEW, "shelf 0 -1 ! -2", "shelf 0 4 ! -2", "shelf 9 4 ! -2", "shelf 9 min ! -2",
            "shelf 0 max ! -2");
        Runs.test(t, "33: -1 ahead of -2", Runs.FEW, "shelf 3 4 ! -1", "shelf -1 -1 ! -1", "count 12 = 0");
        Runs.test(t, "33: nothing held: 0, and -9", Runs.FEW, "shelf 2 0 = 0", "shelf 2 1 = 0", "shelf 2 2 = 0", "shelf 2 3 = -9");
        Runs.test(t, "33: HOLDER, not OWNER", Runs.FEW, "lends 1 2", "shelf 0 0 = 0", "shelf 0 3 = -9", "shelf 2 0 = 1", "shelf 2 1 = 4",
            "shelf 2 2 = 15", "shelf 2 3 = 2");
        Runs.test(t, "33: KINDS of one BOOK, the first, the last", Runs.FEW, "shelf 9 1 = 1", "shelf 9 2 = 6", "shelf 9 3 = 0", "shelf 1 1 = 8",
            "shelf 1 2 = 1", "shelf 1 3 = 3", "lends 0 1", "shelf 1 1 = 9", "shelf 1 2 = 7", "shelf 1 3 = 0", "shelf 9 1 = 0");
        Runs.test(t, "33: with ten BOOKS", Runs.FULL, "shelf 9 0 = 3", "shelf 9 1 = 200", "shelf 9 2 = 6", "shelf 9 3 = 3", "shelf 4 0 = 1",
            "shelf 4 1 = 4", "shelf 4 2 = 3", "shelf 4 3 = 2", "shelf 2 0 = 2", "shelf 2 1 = 17", "shelf 2 2 = 13");
        Runs.test(t, "33: the KIND of which it has most, of several the least", "brings 7 0 9 0", "brings 4 0 9 1", "brings 2 0 9 2",
            "shelf 9 3 = 2", "brings 7 0 9 3", "shelf 9 3 = 7", "brings 4 0 9 4", "shelf 9 3 = 4", "brings 7 0 9 5", "shelf 9 3 = 7",
            "shelf 9 1 = 148", "shelf 9 0 = 6");
        Runs.test(t, "33: KINDS of all, PRICES of all ten", "comes 5 9 0",
            "told b090a;b190b;b290c;b390d;b490e;b590f;b690g;b790h;b000i;b500j; = 10", "shelf 0 0 = 10", "shelf 0 1 = 255",
            "shelf 0 2 = 85", "shelf 0 3 = 0", "shelf 9 0 = 0");
    }

    private static void closest(Checks t) {
        Runs.test(t, "34: CLOSEST -9 of nobody, of one alone", "sight 0 = -9", "comes 0 0 0", "sight 0 = -9", "comes 99 0 0", "sight 0 = 1");
        Runs.test(t, "34: CLOSEST above 0 or below", "comes 4 9 0", "comes 6 9 0", "comes 5 9 0", "brings 2 4 0 0", "over 0 1 = -2",
            "over 0 2 = -1", "over 1 2 = -11", "sight 0 = 2", "eats 1 3", "over 0 1 = 1", "sight 0 = 1", "eats 1 4", "sight 0 = 1",
            "eats 1 1", "over 0 1 = 3", "sight 0 = 2");
        Runs.test(t, "34: CLOSEST, of several the first", "comes 1 9 0", "comes 1 9 0", "comes 1 9 0", "sight 0 = 1", "eats 0 2",
            "sight 0 = 12", "eats 1 2", "sight 0 = 2");
        Runs.test(t, "34: CLOSEST, the last two of six", "comes 9 9 0", "comes 9 9 0", "comes 9 9 0", "comes 9 9 0", "comes 0 9 0",
            "comes 0 9 0", "sight 0 = 45");
    }

    private static void sight(Checks t) {
        Runs.test(t, "34: \"-2\"", Runs.FEW, "sight -1 ! -2", "sight 4 ! -2", "sight min ! -2", "sight max ! -2");
        Runs.test(t, "34: POOR, a PURSE below the least PRICE", "comes 0 0 5", "comes 0 0 6", "comes 0 0 7", "comes 0 0 0",
            "brings 0 5 9 0", "sight 1 = 2", "brings 0 6 9 1", "sight 1 = 2", "brings 0 4 9 2", "sight 1 = 1", "brings 7 9 9 3",
            "sight 1 = 0");
        Runs.test(t, "34: POOR, with ten BOOKS", Runs.FULL, "sight 1 = 0", "buys 2 7 = 1", "sight 1 = 1", "buys 2 3 = 0", "sight 1 = 2",
            "buys 0 6 = 45", "sight 1 = 2", "buys 3 0 = 93", "sight 1 = 0");
        Runs.test(t, "34: POOR 0, if the town has none", "comes 0 0 0", "brings 0 5 0 0", "sight 1 = 0", "lends 0 9", "sight 1 = 0",
            "brings 0 9 9 1", "sight 1 = 1", "lends 1 0", "sight 1 = 1");
        Runs.test(t, "34: UNREAD none, all ten, the last", Runs.FULL, "sight 2 = 1021", "reads 5 9", "sight 2 = 509", "back",
            "sight 2 = 1021");
        Runs.test(t, "34: UNREAD without BOOKS, and when all are READ", "comes 0 9 0", "sight 2 = 0", "brings 0 0 9 0", "sight 2 = 1",
            "reads 0 0", "sight 2 = 0");
        Runs.test(t, "34: LENT none, the town's at home or lent, people's with the town", Runs.FEW, "sight 3 = 0", "lends 0 0", "sight 3 = 1",
            "lends 1 9", "sight 3 = 3", "lends 2 2", "sight 3 = 7", "lends 2 1", "lends 1 0", "lends 0 9", "sight 3 = 0");
        Runs.test(t, "34: LENT, all ten", "comes 0 9 0", "comes 0 9 0",
            "told b000a;b000b;b000c;b000d;b000e;b000f;b000g;b009h;b009i; = 9", "brings 0 0 1 9", "lends 9 9", "sight 3 = 512",
            "told h1a;h1b;h1c;h1d;h1e;h1f;h1g;h1h;h1i; = 9", "sight 3 = 1023");
    }

    private static void share(Checks t) {
        Runs.test(t, "35: \"-1\"", Runs.FEW, "share -1 0 ! -1", "share 3 0 ! -1", "share 9 0 ! -1", "share min 0 ! -1", "share max 0 ! -1");
        Runs.test(t, "35: \"-2\"", Runs.FEW, "share 0 -1 ! -2", "share 0 2 ! -2", "share 0 min ! -2", "share 0 max ! -2");
        Runs.test(t, "35: -1 ahead of -2", Runs.FEW, "share 3 2 ! -1", "share -1 -1 ! -1", "count 12 = 0");
        Runs.test(t, "35: 0 over 1 of none", "comes 0 9 0", "share 0 0 = 0", "share 0 1 = 1");
        Runs.test(t, "35: 0 as 0 over 1, all as 1 over 1", Runs.FEW, "share 0 0 = 0", "share 0 1 = 1", "reads 0 0", "share 0 0 = 1",
            "share 0 1 = 3", "reads 0 1", "share 0 0 = 2", "share 0 1 = 3", "reads 0 2", "share 0 0 = 1", "share 0 1 = 1",
            "share 1 0 = 0", "share 1 1 = 1");
        Runs.test(t, "35: in lowest terms, of ten", Runs.FULL, "share 0 0 = 1", "share 0 1 = 10", "reads 0 0", "share 0 0 = 1",
            "share 0 1 = 5", "reads 0 2", "share 0 0 = 3", "share 0 1 = 10", "reads 0 3", "reads 0 4", "share 0 0 = 1", "share 0 1 = 2",
            "reads 0 5", "share 0 0 = 3", "share 0 1 = 5", "reads 0 6", "reads 0 7", "reads 0 8", "share 0 0 = 9", "share 0 1 = 10",
            "reads 0 9", "share 0 0 = 1", "share 0 1 = 1");
    }

    private static void byHeart(Checks t) {
        Runs.test(t, "36: \"-1 (one twice, too)\"", Runs.FEW, "byHeart 0 0 ! -1", "byHeart 2 2 ! -1", "byHeart 0 3 ! -1",
            "byHeart 3 0 ! -1", "byHeart -1 0 ! -1", "byHeart 0 -1 ! -1", "byHeart 9 0 ! -1", "byHeart 0 9 ! -1", "byHeart min 0 ! -1",
            "byHeart 0 max ! -1", "byHeart 0 1 = 0");
        Runs.test(t, "36: READ by both: none, one, all ten", Runs.FULL, "byHeart 4 5 = 0", "reads 4 9", "byHeart 4 5 = 0", "reads 5 9",
            "byHeart 4 5 = 512", "byHeart 5 4 = 512", "byHeart 4 0 = 0",
            "reads 4 0", "reads 4 1", "reads 4 2", "reads 4 3", "reads 4 4", "reads 4 5", "reads 4 6", "reads 4 7", "reads 4 8", "reads 5 0",
            "reads 5 1", "reads 5 2", "reads 5 3", "reads 5 4", "reads 5 5", "reads 5 6", "reads 5 7", "reads 5 8", "byHeart 4 5 = 1023");
        Runs.test(t, "36: without BOOKS", "comes 0 9 0", "comes 0 9 0", "byHeart 0 1 = 0");
    }

    private static void kinds(Checks t) {
        Runs.test(t, "37: \"-2\"", Runs.FEW, "kinds -1 ! -2", "kinds 8 ! -2", "kinds min ! -2", "kinds max ! -2", "kinds 7 = 0");
        Runs.test(t, "37: none, one, all ten", "kinds 0 = 0", "brings 7 0 9 0", "kinds 7 = 1", "kinds 0 = 0", "kinds 4 = 0",
            "told b709b;b709c;b709d;b709e;b709f;b709g;b709h;b709i;b709j; = 9", "kinds 7 = 10");
        Runs.test(t, "37: of each KIND", "told b009a;b109b;b109c;b209d;b309e;b309f;b309g;b609h; = 8", "kinds 0 = 1", "kinds 1 = 2",
            "kinds 2 = 1", "kinds 3 = 3", "kinds 4 = 0", "kinds 5 = 0", "kinds 6 = 1", "kinds 7 = 0");
    }

    private static void row(Checks t) {
        Runs.test(t, "38: \"-4 (below -99)\"", Runs.FEW, "row -100 ! -4", "row min ! -4", "row -99 = 1");
        Runs.test(t, "38: \"-6 (99\"", Runs.FEW, "row 100 ! -6", "row max ! -6", "row 99 = 1");
        Runs.test(t, "38: \"-6 (.. 12, too)\"", Runs.FULL, "count 6 = 12", "row 0 ! -6", "row -99 ! -6", "clear = 12", "row 0 = 1");
        Runs.test(t, "38: -4 ahead of -6", Runs.FULL, "row -100 ! -4", "row min ! -4", "row 100 ! -6");
        Runs.test(t, "38: how many, 1 .. 12", "row 0 = 1", "row 0 = 2", "row 0 = 3", "row 0 = 4", "row 0 = 5", "row 0 = 6", "row 0 = 7",
            "row 0 = 8", "row 0 = 9", "row 0 = 10", "row 0 = 11", "row 0 = 12", "row 0 ! -6");
    }

    private static void judge(Checks t) {
        Runs.test(t, "39: -9, a ROW of none", "judge = -9", "comes 5 0 0", "judge = -9");
        Runs.test(t, "39: -9, a ROW of fewer than there are, of as many", Runs.FEW, "row 20", "judge = -9", "row 20", "row 10", "row 5",
            "judge = -9");
        Runs.test(t, "39: nobody there, too", "row 0", "judge = 0", Runs.FEW, "row 20", "row 10", "row 5", "row 0", "judge = 3");
        Runs.test(t, "39: nobody there, behind six", Runs.FULL, "judge = 6");
        Runs.test(t, "39: the first that is not so", Runs.FEW, "row 21", "row 10", "row 5", "judge = 0", "row 20", "row 9", "row 6",
            "judge = 1", "row 20", "row 10", "row -5", "judge = 2", "row 19", "row 9", "row 4", "row 0", "judge = 0");
        Runs.test(t, "39: whichever it answers, the ROW has none then", Runs.FEW, "row 20", "judge = -9", "count 6 = 0", "row 5", "judge = 0",
            "count 6 = 0", "row 20 = 1", "judge = -9", "clear = 0");
        Runs.test(t, "39: a WEIGHT of 99, of 0", "comes 99 0 0", "comes 0 0 0", "row 99", "row 0", "judge = -9", "row -99", "judge = 0");
    }

    private static void clear(Checks t) {
        Runs.test(t, "40: how many it had: none, one, twelve", "clear = 0", "row 5", "clear = 1", "count 6 = 0", "clear = 0", Runs.FULL,
            "clear = 12", "clear = 0", "judge = -9");
    }

    private static void lots(Checks t) {
        // 0 with it: 1, whose it is, reads it, too: 2. 1 with it: 1.
        String[] ones = {"comes 3 9 0", "comes 3 9 0", "brings 0 5 1 0"};
        Runs.test(t, "41: \"-4\"", Runs.FEW, "lots 0 5 0 ! -4", "lots -1 5 0 ! -4", "lots min 5 0 ! -4");
        Runs.test(t, "41: \"-6 20\"", Runs.FEW, "lots 21 5 0 ! -6", "lots max 5 0 ! -6");
        Runs.test(t, "41: \"-2\"", Runs.FEW, "lots 1 5 -1 ! -2", "lots 20 5 2 ! -2", "lots 1 5 min ! -2", "lots 1 5 max ! -2");
        Runs.test(t, "41: -4 and -6 ahead of -2", Runs.FEW, "lots 0 5 2 ! -4", "lots 21 5 2 ! -6", "lots 0 5 -1 ! -4", "count 12 = 0");
        Runs.test(t, "41: any seed: z runs round, its sign's bit is left away", ones, "lots 1 0 0 = 2", "lots 1 -1 0 = 1",
            "lots 1 max 0 = 1", "lots 1 min 0 = 2", "lots 1 1 0 = 2", "lots 1 2 0 = 2", "lots 1 3 0 = 1");
        Runs.test(t, "41: n 1 and 20, z goes on from spring to spring", ones, "lots 1 0 0 = 2", "lots 2 0 0 = 4", "lots 20 0 0 = 30",
            "lots 20 -1 0 = 29", "lots 20 min 0 = 30", "lots 20 0 1 = 20", "lots 1 0 1 = 1");
        Runs.test(t, "41: a DRAW below six", "told p00900;p00900;p00900;p00900;p00900;p00900;b005a; = 7", "lots 1 0 0 = 2", "lots 1 -1 0 = 1",
            "lots 1 max 0 = 1", "lots 1 min 0 = 2");
        Runs.test(t, "41: a DRAW below one", "comes 0 9 0", "brings 0 0 0 0", "brings 0 0 9 1", "lots 1 7 0 = 2", "lots 20 -7 0 = 40",
            "lots 20 7 1 = 0");
        Runs.test(t, "41: the town, without PEOPLE", "brings 0 0 9 0", "brings 0 0 9 1", "lots 20 7 0 = 0", "lots 20 7 1 = 0");
        // Six of them come to 0, who reads them all; 1, whose they are, reads one in each of the 8 WEEKS.
        Runs.test(t, "41: a DRAW for each of ten BOOKS, by numbers", "comes 0 9 0", "comes 0 9 0",
            "told b001a;b001b;b001c;b001d;b001e;b001f;b001g;b001h;b001i;b001j; = 10", "lots 1 0 0 = 14", "lots 1 0 1 = 1");
        Runs.test(t, "41: without BOOKS", "comes 0 9 0", "comes 0 9 0", "comes 1 9 0", "lots 1 7 0 = 0", "lots 20 7 0 = 0", "lots 20 7 1 = 20");
        Runs.test(t, "41: 8 WEEKS", "comes 0 9 0", "told b000a;b000b;b000c;b000d;b000e;b000f;b000g;b000h; = 8", "lots 1 7 0 = 8",
            "brings 0 0 0 8", "lots 1 7 0 = 8", "lots 20 7 0 = 160");
        Runs.test(t, "41: 8 WEEKS, in which they eat", "comes 0 6 0", "comes 0 9 0", "lots 1 7 1 = 0", "weeks 1", "lots 1 7 1 = 0", "eats 0 0",
            "lots 20 7 1 = 0", "brings 2 0 0 0", "lots 20 7 1 = 0", "step 0 1", "lots 20 7 1 = 20");
        Runs.test(t, "41: more than now: what is READ already is not told", ones, "reads 1 0", "lots 1 -1 0 = 0", "lots 1 0 0 = 1",
            "reads 0 0", "lots 1 0 0 = 0", "lots 20 5 0 = 0", "lots 20 5 1 = 20");
        Runs.test(t, "41: WEEK may pass 999", Runs.LATE, ones, "lots 1 0 0 = 2", "lots 1 -1 0 = 1", "lots 1 0 1 = 0", "lots 1 -1 1 = 0",
            "eats 0 2", "lots 1 -1 1 = 0", "eats 1 2", "lots 1 -1 1 = 1", "count 2 = 999");
    }

    private static void image(Checks t) {
        Runs.test(t, "43: \"-3 there is none\"", Runs.FEW, "restore ! -3", "restore ! -3", "image = 0", "restore = 0", "count 13 = 2");
        Runs.test(t, "42: WEEK, 0 .. 999", "image = 0", Runs.LATE, "image = 999", "restore = 999");
        Runs.test(t, "42: a second one instead of the first", Runs.FEW, "image = 0", "weeks 1", "image = 1", "weeks 1", "restore = 1",
            "restore = 1", "count 2 = 1");
        Runs.test(t, "43: it stays, whatever becomes of what was restored", Runs.FEW, "image = 0", "restore = 0", "weeks 5", "reads 0 0",
            "restore = 0", "book 0 4 = 0", "count 2 = 0");
        Runs.test(t, "42: an empty one", "image = 0", Runs.FULL, "clear = 12", "town = 24");
        Runs.test(t, "43: an empty one RESTORED", "image = 0", Runs.FEW, "restore = 0", "count 0 = 0", "count 1 = 0", "comes 7 8 9 = 0",
            "person 0 0 = 7", "person 0 3 = 0", "person 0 4 = 0", "brings 0 0 9 0 = 0", "book 0 4 = 0");
        Runs.test(t, "THE IMAGE: all of I", Runs.FEW, "step 1 3", "weeks 2", "reads 0 0", "lends 2 2", "buys 0 0 = 44", "image = 2", "eats 0 9",
            "comes 1 1 1", "brings 0 0 9 8", "clearLaw", "step 0 1", "reads 2 1", "lends 2 9", "lends 0 1", "buys 1 3 = 9", "weeks 7",
            "restore = 2", "count 0 = 3", "count 1 = 3", "count 2 = 2", "count 3 = 1", "person 0 0 = 20", "person 2 0 = 6",
            "person 0 2 = 44", "person 1 2 = 10", "book 0 2 = 0", "book 0 3 = 0", "book 0 4 = 1", "book 1 4 = 1", "book 2 3 = 2",
            "pan 0 1 1 = 5");
        Runs.test(t, "THE IMAGE: but letters, the ROW, REFUSALS", Runs.FEW, "image = 0", "fed w0", "row 5", "row 6", "back ! -3",
            "restore = 0", "count 5 = 2", "count 6 = 2", "count 13 = 1", "fed 3;", "town = 1", "restore = 0", "judge = 0", "restore = 0",
            "count 6 = 0", "count 5 = 0");
        Runs.test(t, "42: what can be TAKEN BACK stays as the IMAGE is taken", Runs.FEW, "eats 0 5", "image = 0", "count 7 = 1", "back = 0",
            "person 0 0 = 20", "eats 0 6", "restore = 0", "person 0 0 = 5", "count 7 = 0", "back ! -3", "person 0 0 = 5");
    }

    private static void count(Checks t) {
        Runs.test(t, "44: \"-9 for another what\"", Runs.FEW, "count -1 = -9", "count 9 = -9", "count 10 = -9", "count 17 = -9",
            "count min = -9", "count max = -9", "count 12 = 0");
        Runs.test(t, "44: everything full", Runs.FULL, "count 0 = 6", "count 1 = 10", "count 2 = 0", "count 3 = 6", "count 4 = 141",
            "count 5 = 96", "count 6 = 12", "count 7 = 8", "count 8 = 5");
        Runs.test(t, "44: REFUSALS each by itself", Runs.FEW, "person 3 0 ! -1", "count 11 = 1", "person 0 6 ! -2", "person 0 6 ! -2",
            "count 12 = 2", "back ! -3", "restore ! -3", "buys 0 1 ! -3", "count 13 = 3", "feed -1 ! -4", "feed -1 ! -4", "weeks 0 ! -4",
            "eats 0 -1 ! -4", "count 14 = 4", "feed 256 ! -6", "count 16 = 1", "count 11 = 1", "count 12 = 2", "count 15 = 0");
        Runs.test(t, "44: REFUSALS of over(), of longs are counted, too", Runs.FEW, "over 0 0 ! -1", "overThen 0 0 0 ! -1",
            "overThen 0 1 -1 ! -4", "overThen 0 1 61 ! -6", "damp 0 0 0 2 0 ! -1", "damp 0 1 -1 2 0 ! -4", "damp 0 1 8 2 0 ! -6",
            "damp 0 1 0 2 2 ! -2", "share 3 0 ! -1", "share 0 2 ! -2", "count 11 = 4", "count 12 = 2", "count 14 = 2", "count 16 = 2");
        Runs.test(t, "44: an answer of -9 is no REFUSAL", Runs.FEW, "title 0 1 = -9", "first = -9", "when 0 1 = -9", "from 25 = -9",
            "judge = -9", "count 9 = -9", "count 11 = 0", "count 12 = 0", "count 13 = 0", "count 14 = 0", "count 15 = 0", "count 16 = 0");
        Runs.test(t, "44: nothing takes REFUSALS back", Runs.FEW, "image = 0", "eats 0 5", "eats 0 100 ! -6", "back = 0", "count 16 = 1",
            "restore = 0", "count 16 = 1", "told w01; = 1", "count 16 = 1", "clear = 0", "count 16 = 1");
        Runs.test(t, "44: WEIGHTS of all, 0 .. 594", "comes 0 0 0", "count 4 = 0", "eats 0 99", "comes 99 0 0", "comes 99 0 0",
            "comes 99 0 0", "comes 99 0 0", "comes 99 0 0", "count 4 = 594");
        Runs.test(t, "44: for how many twos it COMES DOWN: none, all fifteen", "comes 0 0 0", "count 8 = 0", "comes 0 0 0", "count 8 = 1",
            "comes 0 0 0", "comes 0 0 0", "comes 0 0 0", "comes 0 0 0", "count 8 = 15", "eats 0 1", "count 8 = 10", "eats 5 1", "count 8 = 6");
    }
}
