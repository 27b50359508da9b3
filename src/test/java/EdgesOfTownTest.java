/** Part I, and promises 1 to 3: each sentence that names an edge has a test of its own, named by it. */
public final class EdgesOfTownTest {
    private static final String[] SIX = {"comes 4 0 1 = 0", "comes 5 0 2 = 1", "comes 6 0 3 = 2", "comes 7 0 4 = 3",
        "comes 8 0 5 = 4", "comes 9 0 6 = 5"};
    private static final String[] TEN = {"brings 0 5 9 0 = 0", "brings 1 5 9 1 = 1", "brings 2 5 9 2 = 2",
        "brings 3 5 9 3 = 3", "brings 4 5 9 4 = 4", "brings 5 5 9 5 = 5", "brings 6 5 9 6 = 6", "brings 7 5 9 7 = 7",
        "brings 0 5 9 8 = 8", "brings 0 5 9 9 = 9"};
    /** 0 and 1 weigh 20 and 10; book 0 is an ATLAS of 9: it weighs 18, read or not. */
    private static final String[] ATLAS = {"comes 20 5 50", "comes 10 3 10", "comes 5 0 1", "brings 2 9 9 12"};

    public static void main(String[] args) {
        Checks checks = new Checks();
        mostPeopleAndBooks(checks);
        starts(checks);
        titlesAreOneToFour(checks);
        weighs(checks);
        prices(checks);
        stepsCutOff(checks);
        comesDown(checks);
        eating(checks);
        reading(checks);
        newObject(checks);
        feed(checks);
        townCounts(checks);
        faultsOfLetters(checks);
        faultsOfRange(checks);
        faultsOfTitles(checks);
        faultsOfRoom(checks);
        whichFault(checks);
        checks.test("FAULT: kind 1 at each place of a text, with each letter that can't stand there",
            EdgesOfTownTest::eachLetterAtEachPlace);
        checks.test("FAULT: \"the end, if something lacks\": each text cut short", EdgesOfTownTest::eachTextCutShort);
        checks.end();
    }

    private static void mostPeopleAndBooks(Checks t) {
        Runs.test(t, "PEOPLE: 6 at most, by comes()", SIX, "comes 0 0 0 ! -6", "count 0 = 6", "person 5 0 = 9",
            "person 6 0 ! -1", "told p00000; = -2000", "count 0 = 6");
        Runs.test(t, "PEOPLE: 6 at most, by a TOWN", "told p00000;p00000;p00000;p00000;p00000;p00000; = 6", "count 0 = 6",
            "comes 0 0 0 ! -6", "told p00000; = -2000");
        Runs.test(t, "PEOPLE: the seventh in a TOWN brings none of it", "told p00000;p00000;p00000;p00000;p00000; = 5",
            "told p00000;p00000; = -2007", "count 0 = 5", "told p00000; = 1", "count 0 = 6");
        Runs.test(t, "BOOKS: 10 at most, by brings()", TEN, "brings 0 5 9 10 ! -6", "count 1 = 10", "book 9 1 = 5",
            "book 10 1 ! -1", "told b059k; = -2000", "count 1 = 10");
        Runs.test(t, "BOOKS: 10 at most, by a TOWN",
            "told b059a;b059b;b059c;b059d;b059e;b059f;b059g;b059h;b059i;b059j; = 10", "brings 0 5 9 10 ! -6",
            "told b059k; = -2000", "count 1 = 10");
        Runs.test(t, "BOOKS: the eleventh in a TOWN brings none of it", TEN, "image", "told b059k; = -2000", "restore = 0",
            "count 1 = 10");
        Runs.test(t, "BOOKS: nine, and two more in a TOWN", "told b059a;b059b;b059c;b059d;b059e;b059f;b059g;b059h;b059i; = 9",
            "told b059y;b059z; = -2006", "count 1 = 9", "told b059z; = 1", "count 1 = 10");
    }

    private static void starts(Checks t) {
        Runs.test(t, "the HOLDER is the OWNER as it comes", Runs.FEW, "book 0 2 = 9", "book 0 3 = 9", "book 1 2 = 0",
            "book 1 3 = 0", "book 2 2 = 1", "book 2 3 = 1", "told b052ab;b059ac; = 2", "book 3 2 = 2", "book 3 3 = 2",
            "book 4 2 = 9", "book 4 3 = 9");
        Runs.test(t, "READ by nobody at first, also where another book was", "comes 3 0 0", "image = 0", "brings 0 5 0 3 = 0",
            "book 0 4 = 0", "reads 0 0 = 1", "lends 0 9 = 0", "restore = 0", "count 1 = 0", "brings 0 5 0 3 = 0",
            "book 0 4 = 0", "book 0 3 = 0", "reads 0 0 = 1", "restore = 0", "told b050d; = 1", "book 0 4 = 0");
        Runs.test(t, "WEEK: 0 at first, 999 at most", "count 2 = 0", Runs.LATE, "count 2 = 999", "weeks 1 ! -6",
            "told w01; = -2000", "count 2 = 999");
        Runs.test(t, "LAW: no STEPS at first, 6 at most", "count 3 = 0", "clearLaw = 0", "step 0 1 = 1", "step 1 1 = 2",
            "step 2 1 = 3", "step 3 1 = 4", "step 4 0 = 5", "step 5 0 = 6", "step 6 0 ! -6", "step 7 0 ! -6", "count 3 = 6",
            "told lddddddd; = -2000", "count 3 = 6", "told ldddddd; = 1", "step 0 1 ! -6", "clearLaw = 6", "step 0 1 = 1");
    }

    private static void titlesAreOneToFour(Checks t) {
        Runs.test(t, "TITLE: 1 letter at least", "told b059; = -1004", "told b059a; = 1", "book 0 7 = 1");
        Runs.test(t, "TITLE: 4 letters at most", "told b059zzzz; = 1", "book 0 7 = 4", "told b059aaaaa; = -2000",
            "told b059azazazazazaz; = -2000", "count 1 = 1");
        Runs.test(t, "TITLE: letters a .. z", "told b059az; = 1", "title 0 0 = 0", "title 0 1 = 25", "told b059`; = -1004",
            "told b059{; = -1004", "told b059A; = -1004", "told b0590; = -1004");
        Runs.test(t, "TITLE: no two alike", "told b059ab; = 1", "told b139ab; = -2000", "told b059cd;b139cd; = -2007",
            "count 1 = 1", "brings 0 5 9 4 = 1", "brings 0 5 9 4 ! -3", "told b059e; = -2000");
        Runs.test(t, "TITLE: one that another begins with is not alike", "told b059aa; = 1", "told b059a;b059aaa;b059aaaa; = 3",
            "brings 0 5 9 0 ! -3", "brings 0 5 9 1 = 4", "told b059b; = -2000");
    }

    private static void weighs(Checks t) {
        String[] read = {"reads 0 0", "reads 1 0", "reads 2 0", "reads 3 0", "reads 4 0", "reads 5 0"};
        Runs.test(t, "WEIGHS: NOVEL 0 if k is 0", SIX, "brings 0 9 9 0", "book 0 5 = 0", "reads 5 0", "book 0 5 = 10",
            read, "book 0 5 = 15");
        Runs.test(t, "WEIGHS: NOVEL of FIGURE 0", SIX, "brings 0 0 9 0", "book 0 5 = 0", "reads 0 0", "book 0 5 = 1");
        Runs.test(t, "WEIGHS: HYMNAL 2 more, of nobody 2", SIX, "brings 1 9 9 0", "book 0 5 = 2", "reads 0 0", "book 0 5 = 12",
            read, "book 0 5 = 17");
        Runs.test(t, "WEIGHS: ATLAS twice, 0 .. 18", SIX, "brings 2 0 9 0", "brings 2 9 9 1", "book 0 5 = 0", "book 1 5 = 18",
            read, "book 0 5 = 0", "reads 0 1", "book 1 5 = 18");
        Runs.test(t, "WEIGHS: SERMON plus 5 if k is 0, else as a NOVEL", SIX, "brings 3 0 9 0", "brings 3 9 9 1", "book 0 5 = 5",
            "book 1 5 = 14", "reads 0 0", "book 0 5 = 1", "reads 0 1", "book 1 5 = 10", read, "book 0 5 = 6");
        Runs.test(t, "WEIGHS: POEMS k more than a HYMNAL, of nobody 2", SIX, "brings 4 9 9 0", "book 0 5 = 2", "reads 0 0",
            "book 0 5 = 13", read, "book 0 5 = 23");
        Runs.test(t, "WEIGHS: DICTIONARY by its TITLE of 1 .. 4", SIX, "told b509a;b509ab;b509abc;b599abcd;b519b; = 5",
            "book 0 5 = 1", "book 1 5 = 2", "book 2 5 = 3", "book 3 5 = 13", "book 4 5 = 2", read, "book 0 5 = 1");
        Runs.test(t, "WEIGHS: LATIN 3 more if w is odd", SIX, "brings 6 4 9 0", "book 0 5 = 9", "weeks 1", "book 0 5 = 12",
            "reads 0 0", "book 0 5 = 8", "weeks 1", "book 0 5 = 5", "weeks 57 = 59", "book 0 5 = 8",
            "weeks 60 = 119", "book 0 5 = 8", "weeks 1 = 120", "book 0 5 = 5");
        Runs.test(t, "WEIGHS: LATIN in mind behind WEEK 999", "comes 0 9 0", "comes 0 9 0", "brings 6 4 0 0", "reads 0 0",
            Runs.LATE, "eats 0 0", "eats 1 0", "over 0 1 = 8", "overThen 0 1 0 = 8", "overThen 0 1 1 = 5",
            "overThen 0 1 2 = 6");
        Runs.test(t, "WEIGHS: BIBLE 10 at least", SIX, "brings 7 5 9 0", "brings 7 6 9 1", "brings 7 7 9 2", "brings 7 9 9 3",
            "book 0 5 = 10", "book 3 5 = 10", "reads 0 0", "book 0 5 = 10", "reads 0 1", "book 1 5 = 10", "reads 0 2",
            "book 2 5 = 11", "reads 1 0", "book 0 5 = 11", "reads 0 3", "book 3 5 = 13");
    }

    private static void prices(Checks t) {
        Runs.test(t, "PRICE: each KIND of FIGURE 0", "told b009a;b109b;b209c;b309d;b409e;b509f;b609g;b709h; = 8", "book 0 6 = 1",
            "book 1 6 = 2", "book 2 6 = 3", "book 3 6 = 1", "book 4 6 = 2", "book 5 6 = 0", "book 6 6 = 5", "book 7 6 = 0");
        Runs.test(t, "PRICE: each KIND of FIGURE 9", "told b099a;b199b;b299c;b399d;b499e;b599f;b699g;b799h; = 8",
            "book 0 6 = 10", "book 1 6 = 2", "book 2 6 = 30", "book 3 6 = 1", "book 4 6 = 11", "book 5 6 = 25",
            "book 6 6 = 5", "book 7 6 = 0");
        Runs.test(t, "PRICE: DICTIONARY 5 less, 0 at least", "told b509a;b519b;b529c; = 3", "book 0 6 = 0", "book 1 6 = 1",
            "book 2 6 = 4");
    }

    private static void step(Checks t, String sentence, Object... parts) {
        Runs.test(t, "STEPS: " + sentence, ATLAS, Runs.rows(parts));
    }

    private static void stepsCutOff(Checks t) {
        step(t, "none: as heavy as it is", "pan 0 1 0 = 18", "told l; = 1", "pan 0 1 0 = 18");
        step(t, "\"a\" n: n 00 and 99", "step 0 0", "pan 0 1 0 = 18", "step 0 99", "pan 0 1 0 = 117");
        step(t, "\"a\" n, six times 99", "told la99a99a99a99a99a99; = 1", "pan 0 1 0 = 612");
        step(t, "\"l\" n: 0 at least", "told ll17; = 1", "pan 0 1 0 = 1", "told ll18; = 1", "pan 0 1 0 = 0", "told ll19; = 1",
            "pan 0 1 0 = 0", "told ll99; = 1", "pan 0 1 0 = 0", "told ll00; = 1", "pan 0 1 0 = 18", "told ll99a05; = 1",
            "pan 0 1 0 = 5");
        step(t, "\"c\" n: n at most", "told lc17; = 1", "pan 0 1 0 = 17", "told lc18; = 1", "pan 0 1 0 = 18",
            "told lc19; = 1", "pan 0 1 0 = 18", "told lc00; = 1", "pan 0 1 0 = 0", "told lc99; = 1", "pan 0 1 0 = 18");
        step(t, "\"t\" n: 0, if it is below n", "told lt17; = 1", "pan 0 1 0 = 18", "told lt18; = 1", "pan 0 1 0 = 18",
            "told lt19; = 1", "pan 0 1 0 = 0", "told lt00; = 1", "pan 0 1 0 = 18", "told lt99; = 1", "pan 0 1 0 = 0");
        step(t, "\"d\": twice, if m is 2 of the two that are weighed", "step 4 0", "pan 0 1 0 = 18", "reads 0 0",
            "pan 0 1 0 = 18", "pan 1 0 0 = 18", "reads 2 0", "pan 0 1 0 = 18", "pan 0 2 0 = 36", "reads 1 0",
            "pan 0 1 0 = 36", "pan 1 2 0 = 36");
        step(t, "\"u\": 0, if m is 0 of the two that are weighed", "step 5 0", "pan 0 1 0 = 0", "reads 2 0", "pan 0 1 0 = 0",
            "pan 0 2 0 = 18", "reads 1 0", "pan 0 1 0 = 18", "reads 0 0", "pan 0 1 0 = 18");
        step(t, "\"h\": half, cut, down to 0", "told lh; = 1", "pan 0 1 0 = 9", "told lhh; = 1", "pan 0 1 0 = 4",
            "told lhhh; = 1", "pan 0 1 0 = 2", "told lhhhh; = 1", "pan 0 1 0 = 1", "told lhhhhh; = 1", "pan 0 1 0 = 0",
            "told lhhhhhh; = 1", "pan 0 1 0 = 0");
        step(t, "\"o\": 1 more, if w is odd", "step 7 0", "pan 0 1 0 = 18", "weeks 1", "pan 0 1 0 = 19", "weeks 1",
            "pan 0 1 0 = 18", "told loooooo; = 1", "pan 0 1 0 = 18", "weeks 1", "pan 0 1 0 = 24");
        step(t, "one behind the other", "told la01h; = 1", "pan 0 1 0 = 9", "told lha01; = 1", "pan 0 1 0 = 10",
            "told lc10l03t08a50c40h; = 1", "pan 0 1 0 = 20");
        Runs.test(t, "STEPS: of what weighs 0", "comes 1 0 0", "comes 1 0 0", "brings 0 9 0 0", "step 6 0", "pan 0 1 0 = 0",
            "step 1 1", "pan 0 1 0 = 0", "step 0 0", "pan 0 1 0 = 0", "step 3 1", "pan 0 1 0 = 0", "step 0 1",
            "pan 0 1 0 = 1", "over 0 1 = -1");
    }

    private static void comesDown(Checks t) {
        String[] two = {"comes 4 9 0", "comes 4 9 0", "brings 2 4 0 0"};
        Runs.test(t, "COMES DOWN: if OVER is 0", two, "over 0 1 = 0", "count 8 = 1", "when 0 1 = 0", "couples -1 = 1",
            "buy 0 1 0 = 0", "first = -9");
        Runs.test(t, "COMES DOWN: not if OVER is -1", two, "eats 1 5", "over 0 1 = -1", "count 8 = 0", "when 0 1 = -9",
            "couples -1 = 0", "buy 0 1 0 = -9", "damp 0 1 0 2 0 = 0", "first = -9");
        Runs.test(t, "COMES DOWN: if OVER is 1", two, "eats 1 3", "over 0 1 = 1", "count 8 = 1", "when 0 1 = 0",
            "damp 0 1 0 2 0 = 1");
        Runs.test(t, "OVER: may be below 0, down to both WEIGHTS", "comes 99 0 0", "comes 99 0 0", "over 0 1 = -198",
            "overThen 0 1 60 = -198");
        Runs.test(t, "PAN: nothing on it, weighed against nothing", "comes 0 0 0", "comes 0 0 0", "over 0 1 = 0", "count 8 = 1");
        Runs.test(t, "PAN: of each BOOK whose HOLDER is one of them", "comes 0 9 0", "comes 0 9 0", "comes 0 9 0",
            "brings 2 1 0 0", "brings 2 2 1 1", "brings 2 4 2 2", "brings 2 8 9 3", "over 0 1 = 6", "over 1 2 = 12",
            "over 2 0 = 10", "lends 3 1", "over 0 1 = 22", "over 1 0 = 22", "over 0 2 = 10", "lends 1 9", "over 0 1 = 18",
            "lends 0 2", "over 0 1 = 16", "over 0 2 = 10");
    }

    private static void eating(Checks t) {
        Runs.test(t, "A WEEK: 2 more than APPETITE 0 divides WEEK", "comes 50 0 0", "weeks 1", "person 0 0 = 50", "weeks 1",
            "person 0 0 = 51", "weeks 1", "person 0 0 = 51", "weeks 1", "person 0 0 = 52");
        Runs.test(t, "A WEEK: 2 more than APPETITE 9 divides WEEK", "comes 50 9 0", "weeks 10", "person 0 0 = 50", "weeks 1",
            "person 0 0 = 51", "weeks 10", "person 0 0 = 51", "weeks 1", "person 0 0 = 52");
        Runs.test(t, "A WEEK: it is the WEEK that is 1 more already", "comes 50 1 0", "weeks 2", "person 0 0 = 50", "weeks 1",
            "person 0 0 = 51", "weeks 2", "person 0 0 = 51", "weeks 1", "person 0 0 = 52");
        Runs.test(t, "A WEEK: 99 held", "comes 97 0 0", "weeks 2", "person 0 0 = 98", "weeks 2", "person 0 0 = 99", "weeks 2",
            "person 0 0 = 99", "weeks 60", "person 0 0 = 99", "then 60 0 0 = 99", "eats 0 98", "then 1 0 0 = 98",
            "then 2 0 0 = 99", "then 4 0 0 = 99");
        Runs.test(t, "A WEEK: eating in mind behind WEEK 999", "comes 50 0 0", "comes 50 8 0", Runs.LATE, "eats 0 50",
            "eats 1 50", "then 0 0 0 = 50", "then 1 0 0 = 51", "then 2 0 0 = 51", "then 3 0 0 = 52", "then 1 0 1 = 51",
            "then 10 0 1 = 51", "then 11 0 1 = 52");
    }

    private static void reading(Checks t) {
        Runs.test(t, "A WEEK: nobody, and nothing to read", "weeks 1 = 1", "comes 5 9 0", "weeks 1 = 2", "person 0 3 = 0",
            "brings 0 5 9 0", "weeks 1 = 3", "book 0 4 = 0");
        Runs.test(t, "A WEEK: one that ends is ahead of one that goes on", "comes 5 9 0",
            "told b000b;b000aa;b000a;b000ab;b000aaa; = 5", "weeks 1", "sight 2 = 27", "weeks 1", "sight 2 = 25", "weeks 1",
            "sight 2 = 9", "weeks 1", "sight 2 = 1", "weeks 1", "sight 2 = 0");
        Runs.test(t, "A WEEK: the first TITLE by its last letter, too", "comes 5 9 0",
            "told b000zzzz;b000zzzy;b000zzz;b000zzyz; = 4", "weeks 1", "sight 2 = 7", "weeks 1", "sight 2 = 3", "weeks 1",
            "sight 2 = 1", "weeks 1", "sight 2 = 0");
        Runs.test(t, "A WEEK: of those that he hasn't READ", "comes 5 9 0", "brings 0 5 9 0", "brings 0 5 9 1", "lends 0 0",
            "lends 1 0", "reads 0 0", "weeks 1", "book 0 3 = 0", "book 1 4 = 1", "book 1 3 = 9", "weeks 5", "book 0 3 = 0",
            "book 0 4 = 1");
        Runs.test(t, "A WEEK: is its OWNER he himself, he holds it on", "comes 5 9 0", "brings 0 5 0 0", "weeks 1",
            "book 0 4 = 1", "book 0 3 = 0");
        Runs.test(t, "A WEEK: is its OWNER the town, it is the town's then", "comes 5 9 0", "brings 0 5 9 0", "lends 0 0",
            "weeks 1", "book 0 4 = 1", "book 0 3 = 9");
        Runs.test(t, "A WEEK: PEOPLE by numbers, the OWNER behind the HOLDER reads it at once", "comes 5 9 0", "comes 5 9 0",
            "brings 0 5 1 0", "lends 0 0", "weeks 1", "book 0 4 = 3", "book 0 3 = 1");
        Runs.test(t, "A WEEK: PEOPLE by numbers, the OWNER ahead of the HOLDER waits", "comes 5 9 0", "comes 5 9 0",
            "brings 0 5 0 0", "lends 0 1", "weeks 1", "book 0 4 = 2", "book 0 3 = 0", "weeks 1", "book 0 4 = 3");
        Runs.test(t, "A WEEK: one reads one", "comes 5 9 0", "brings 0 5 0 0", "brings 0 5 0 1", "brings 0 5 0 2", "weeks 1",
            "person 0 3 = 1", "weeks 1", "person 0 3 = 2", "weeks 1", "person 0 3 = 3", "weeks 1", "person 0 3 = 3");
    }

    private static void newObject(Checks t) {
        Runs.test(t, "1: nobody", "count 0 = 0", "count 4 = 0", "count 8 = 0", "person 0 0 ! -1", "eats 0 5 ! -1",
            "reads 0 0 ! -1", "buys 0 0 ! -1", "over 0 1 ! -1", "pan 0 1 0 ! -1", "overThen 0 1 0 ! -1", "then 0 0 0 ! -1",
            "when 0 1 ! -1", "buy 0 1 0 ! -1", "borrow 0 1 0 ! -1", "taught 0 0 1 0 ! -1", "couples 0 ! -1",
            "heaviest 0 1 0 ! -1", "whatKind 0 1 0 0 ! -1", "two 0 1 1 ! -1", "damp 0 1 0 2 0 ! -1", "shelf 0 0 ! -1",
            "share 0 0 ! -1", "byHeart 0 1 ! -1", "count 11 = 20");
        Runs.test(t, "1: nobody, and what is asked of all of them", "first = -9", "couples -1 = 0", "sight 0 = -9", "sight 1 = 0",
            "lots 20 7 0 = 0", "lots 20 7 1 = 0", "judge = -9");
        Runs.test(t, "1: no BOOKS", "count 1 = 0", "book 0 0 ! -1", "title 0 0 ! -1", "lends 0 9 ! -1", "titles 0 0 ! -1",
            "then 0 1 0 ! -1", "then 0 2 0 ! -1", "from 0 = -9", "from 25 = -9", "shelf 9 0 = 0", "shelf 9 1 = 0",
            "shelf 9 2 = 0", "shelf 9 3 = -9", "sight 2 = 0", "sight 3 = 0", "kinds 0 = 0", "kinds 7 = 0");
        Runs.test(t, "1: no STEPS, no WEEK gone, nothing told, nothing to take back, no IMAGE", "count 3 = 0", "count 2 = 0",
            "count 5 = 0", "count 6 = 0", "count 7 = 0", "town = -1000", "clear = 0", "back ! -3", "restore ! -3");
        Runs.test(t, "1: no REFUSALS", "count 11 = 0", "count 12 = 0", "count 13 = 0", "count 14 = 0", "count 15 = 0",
            "count 16 = 0");
    }

    private static void feed(Checks t) {
        Runs.test(t, "2: \"-4\"", "feed -1 ! -4", "feed min ! -4", "count 5 = 0", "feed 0 = 1");
        Runs.test(t, "2: \"-6 (255\"", "feed 255 = 1", "feed 256 ! -6", "feed max ! -6", "count 5 = 1");
        Runs.test(t, "2: \"96, too\"", "fed " + "w01;".repeat(23) + "w0 = 94", "feed 49 = 95", "feed 59 = 96", "feed 59 ! -6",
            "feed 0 ! -6", "feed -1 ! -4", "feed 256 ! -6", "count 5 = 96", "town = 24", "count 2 = 24", "feed 59 = 1");
        Runs.test(t, "2: what is refused leaves the letters as they were", "fed w0 = 2", "feed -1 ! -4", "feed 256 ! -6",
            "fed 3; = 4", "town = 1", "count 2 = 3");
    }

    private static void townCounts(Checks t) {
        Runs.test(t, "3: the letters are no more then", "fed w01;", "count 5 = 4", "town = 1", "count 5 = 0", "town = -1000",
            "feed 119 = 1");
        Runs.test(t, "3: with a FAULT neither", "fed w01", "town = -1003", "count 5 = 0", "feed 59 = 1", "town = -1000",
            "fed w00;", "town = -2000", "count 5 = 0", "town = -1000");
        Runs.test(t, "3: how many STATEMENTS, 1 .. 48", "told l; = 1", "told l;l; = 2", "told " + "l;".repeat(48) + " = 48");
        Runs.test(t, "3: at least one STATEMENT", "town = -1000", "told ; = -1000");
        Runs.test(t, "3: a FAULT: nothing is counted", Runs.FEW, "told x = -1000", "told w00; = -2000", "count 11 = 0",
            "count 12 = 0", "count 13 = 0", "count 14 = 0", "count 15 = 0", "count 16 = 0");
        Runs.test(t, "3: with a FAULT nothing comes of it", Runs.FEW, "step 0 7", "row 5", "image", "weeks 1",
            "told p11111;b009q;r0q;h1q;h9b;ld;w05;p1111; = -1037", "told p11111;b009q;r0q;h1q;h9b;ld;w05;w61; = -2032",
            "count 0 = 3", "count 1 = 3", "count 2 = 1", "count 3 = 1", "count 7 = 2");
        Runs.test(t, "3: without a FAULT all of it comes, one behind the other", Runs.FEW,
            "told p11199;b003q;r0q;r0q;h1q;h9b;ldo;w01; = 8", "count 0 = 4", "person 3 0 = 11", "person 3 1 = 1",
            "person 3 2 = 99", "book 3 0 = 0", "book 3 1 = 0", "book 3 2 = 3", "book 3 3 = 1", "book 3 4 = 1", "book 1 3 = 9",
            "count 3 = 2", "count 2 = 1");
        Runs.test(t, "3: \"r\" of what he has READ already", Runs.FEW, "reads 0 0", "told r0a;r0a; = 2", "book 0 4 = 1");
        Runs.test(t, "3: \"r\" of what another has READ", Runs.FEW, "told r2a;r0a; = 2", "book 0 4 = 5", "told r1a; = 1", "book 0 4 = 7");
        Runs.test(t, "3: \"h\" 9, or one of PEOPLE; the OWNER stays", Runs.FEW, "told h9b; = 1", "book 1 3 = 9", "book 1 2 = 0",
            "told h2b; = 1", "book 1 3 = 2");
        Runs.test(t, "3: \"l\" none at all, and instead of what was", "told la01ddddd; = 1", "count 3 = 6", "told l; = 1",
            "count 3 = 0", "told la01;lddd; = 2", "count 3 = 3");
        Runs.test(t, "3: a number at both its ends", "told p00000;p99999; = 2", "person 0 0 = 0", "person 0 1 = 0",
            "person 0 2 = 0", "person 1 0 = 99", "person 1 1 = 9", "person 1 2 = 99", "told b000a;b791b; = 2",
            "book 0 0 = 0", "book 0 1 = 0", "book 0 2 = 0", "book 1 0 = 7", "book 1 1 = 9", "book 1 2 = 1");
    }

    private static void faultsOfLetters(Checks t) {
        Runs.test(t, "FAULT: kind 1, the place of the first letter", "told x = -1000", "told p20550;x = -1007",
            "told p2a = -1002", "told b00a; = -1003", "told w01;;w01; = -1004", "told p20550w = -1006");
        Runs.test(t, "FAULT: kind 1, the end, if something lacks", "town = -1000", "told p20550 = -1006",
            "told p20550;b009 = -1011", "told l = -1001", "told la0 = -1003", "told w01;w01 = -1007", "told r0 = -1002");
        Runs.test(t, "FAULT: kind 1 at the last of 96 letters, and behind them", "told " + "w01;".repeat(23) + "w011 = -1095",
            "told " + "w01;".repeat(23) + "lddd = -1096", "count 2 = 0");
        Runs.test(t, "FAULT: kind 1, one digit too few or too many", "told p2055; = -1005", "told p205500; = -1006",
            "told b05a; = -1003", "told b0599a; = -1004", "told ra; = -1001", "told r00a; = -1002", "told ha; = -1001",
            "told h00a; = -1002", "told la5; = -1003", "told la005; = -1004", "told w1; = -1002", "told w001; = -1003");
        Runs.test(t, "FAULT: kind 1, a digit behind a STEP without a number, none behind one with it", "told ld05; = -1002",
            "told lu0; = -1002", "told lh9; = -1002", "told lo00; = -1002", "told la; = -1002", "told ll; = -1002",
            "told lcd; = -1002", "told lt; = -1002");
        WeighedInBooks x = new WeighedInBooks();
        t.test("FAULT: kind 1 for letters 0 and 255", c -> {
            c.due("feed(0)", x.feed(0), 1);
            c.due("town()", x.town(), -1000);
            c.due("feed(255)", x.feed(255), 1);
            c.due("town()", x.town(), -1000);
        });
    }

    private static void faultsOfRange(Checks t) {
        Runs.test(t, "FAULT: kind 2, a KIND out of range", "told b709a; = 1", "told b809b; = -2000", "told b909b; = -2000",
            "told b009b;b809c; = -2006", "count 1 = 1");
        Runs.test(t, "FAULT: kind 2, no such OWNER", "told b000a; = -2000", "comes 5 0 0", "told b000a; = 1", "told b001b; = -2000",
            "told b008b; = -2000", "told b009b; = 1", "told p00000;b001c; = 2");
        Runs.test(t, "FAULT: kind 2, no such one of PEOPLE (r)", Runs.FEW, "told r2a; = 1", "told r3a; = -2000",
            "told r8a; = -2000", "told r9a; = -2000", "told p00000;r3a; = 2");
        Runs.test(t, "FAULT: kind 2, no such one of PEOPLE (h)", Runs.FEW, "told h2a; = 1", "told h3a; = -2000",
            "told h8a; = -2000", "told h9a; = 1", "told p00000;h3a; = 2");
        Runs.test(t, "FAULT: kind 2, WEEKS 1 .. 60", "told w00; = -2000", "told w01; = 1", "told w60; = 1", "told w61; = -2000",
            "told w99; = -2000", "count 2 = 61");
        Runs.test(t, "FAULT: kind 2, WEEK above 999", "told w60;w60;w60;w60;w60;w60;w60;w60; = 8", "told w60;w60;w60;w60;w60;w60;w60;w60; = 8",
            "told w40; = -2000", "told w39;w01; = -2004", "told w38;w02; = -2004", "count 2 = 960", "told w38;w01; = 2",
            "count 2 = 999", "told w01; = -2000", "told w60; = -2000");
        Runs.test(t, "FAULT: kind 2, more than 6 STEPS", "told ldddddd; = 1", "told lddddddd; = -2000",
            "told la00a00a00a00a00a00; = 1", "told la01l02c03t04dua07; = -2000", "told l;" + "ld;".repeat(20) + " = 21",
            "told l" + "d".repeat(94) + "; = -2000", "count 3 = 1");
    }

    private static void faultsOfTitles(Checks t) {
        Runs.test(t, "FAULT: kind 2, a TITLE of more than 4 (b)", "told b009abcd; = 1", "told b009abcde; = -2000",
            "told b009abce;b009abcfe; = -2009", "count 1 = 1");
        Runs.test(t, "FAULT: kind 2, a TITLE of more than 4 (r, h)", "comes 5 0 0", "told b009abcd; = 1", "told r0abcd; = 1",
            "told h0abcd; = 1", "told r0abcde; = -2000", "told h0abcde; = -2000");
        Runs.test(t, "FAULT: kind 2, a TITLE there already", "told b009a; = 1", "told b009a; = -2000", "told b009b;b009b; = -2006",
            "told b009c;b009a; = -2006", "count 1 = 1");
        Runs.test(t, "FAULT: kind 2, a TITLE, none such", "comes 5 0 0", "told r0a; = -2000", "told h0a; = -2000", "told b009ab; = 1",
            "told r0a; = -2000", "told h0b; = -2000", "told r0abc; = -2000", "told r0ab;h0aa; = -2005");
    }

    private static void faultsOfRoom(Checks t) {
        Runs.test(t, "FAULT: kind 2, no room for one of PEOPLE", SIX, "told p00000; = -2000", "told w01;p00000; = -2004",
            "count 2 = 0");
        Runs.test(t, "FAULT: kind 2, a TITLE, none such of ten", TEN, "comes 5 0 0", "told r0z; = -2000", "told h9z; = -2000",
            "told r0j;h0j; = 2", "book 9 4 = 1", "book 9 3 = 0");
        Runs.test(t, "FAULT: kind 2, no room for a BOOK", TEN, "told b009z; = -2000", "told w01;b009z; = -2004", "count 2 = 0");
    }

    private static void whichFault(Checks t) {
        Runs.test(t, "FAULT: kind 1 ahead of kind 2, wherever it is", "told w00;x = -1004", "told b809a;w0 = -1008",
            "told w00;w00;lx; = -1009");
        Runs.test(t, "FAULT: kind 2, of the first STATEMENT that is not so", "told w01;w00;w61; = -2004", "told b809a;w00; = -2000",
            "told w00;w01; = -2000");
        Runs.test(t, "FAULT: kind 2, behind all that is ahead of it in the text", "told p00000;b050a;r0a;h0a; = 4",
            "told r0b;b050b; = -2000", "told b051b;p00000; = -2000", "told p00000;b051b;r1b; = 3", "told h2b;p00000; = -2000");
        Runs.test(t, "FAULT: the place, with two figures", "told w01;w01;w01;w01;w00; = -2016", "count 2 = 0",
            "told " + "w01;".repeat(23) + "w00; = -2092", "told " + "w01;".repeat(23) + "w0x; = -1094", "count 2 = 0");
    }

    /** Behind each letter of a text: those that may stand in its place. */
    private static final String[][] PLACES = {
        {"p", "pbrhlw"}, {"2", "0123456789"}, {"0", "0123456789"}, {"5", "0123456789"}, {"5", "0123456789"},
        {"0", "0123456789"}, {";", ";"}, {"b", "pbrhlw"}, {"0", "0123456789"}, {"5", "0123456789"}, {"9", "0123456789"},
        {"w", "abcdefghijklmnopqrstuvwxyz"}, {"a", "abcdefghijklmnopqrstuvwxyz;"}, {"r", "abcdefghijklmnopqrstuvwxyz;"},
        {"x", "abcdefghijklmnopqrstuvwxyz;"}, {";", "abcdefghijklmnopqrstuvwxyz;"}, {"r", "pbrhlw"}, {"0", "0123456789"},
        {"w", "abcdefghijklmnopqrstuvwxyz"}, {"a", "abcdefghijklmnopqrstuvwxyz;"}, {"r", "abcdefghijklmnopqrstuvwxyz;"},
        {"x", "abcdefghijklmnopqrstuvwxyz;"}, {";", "abcdefghijklmnopqrstuvwxyz;"}, {"h", "pbrhlw"}, {"9", "0123456789"},
        {"w", "abcdefghijklmnopqrstuvwxyz"}, {"a", "abcdefghijklmnopqrstuvwxyz;"}, {"r", "abcdefghijklmnopqrstuvwxyz;"},
        {"x", "abcdefghijklmnopqrstuvwxyz;"}, {";", "abcdefghijklmnopqrstuvwxyz;"}, {"l", "pbrhlw"}, {"h", "alctduho;"},
        {";", "alctduho;"}, {"l", "pbrhlw"}, {"a", "alctduho;"}, {"0", "0123456789"}, {"5", "0123456789"}, {"d", "alctduho;"},
        {"l", "alctduho;"}, {"0", "0123456789"}, {"0", "0123456789"}, {"c", "alctduho;"}, {"9", "0123456789"},
        {"9", "0123456789"}, {"t", "alctduho;"}, {"0", "0123456789"}, {"1", "0123456789"}, {"o", "alctduho;"}, {";", "alctduho;"}, {"w", "pbrhlw"}, {"0", "0123456789"}, {"3", "0123456789"}, {";", ";"}};

    private static void feedPlaces(WeighedInBooks x, int many) {
        for (int i = 0; i < many; i++) {
            x.feed(PLACES[i][0].charAt(0));
        }
    }

    private static void eachLetterAtEachPlace(Checks c) {
        for (int place = 0; place < PLACES.length; place++) {
            WeighedInBooks x = new WeighedInBooks();
            int calls = 0;
            for (int letter = 0; letter < 256; letter++) {
                if (calls + place + 2 > 512) {
                    x = new WeighedInBooks();
                    calls = 0;
                }
                feedPlaces(x, place);
                x.feed(letter);
                boolean mayStand = PLACES[place][1].indexOf(letter) >= 0;
                int answer = x.town();
                c.isTrue("letter " + letter + " at place " + place + " answered " + answer,
                    mayStand == (answer != -1000 - place));
                calls += place + 2;
                if (answer > 0) {
                    // What came of it must not be told of once more.
                    calls = 512;
                }
            }
        }
    }

    private static void eachTextCutShort(Checks c) {
        for (int length = 0; length < PLACES.length; length++) {
            boolean ends = length > 0 && PLACES[length - 1][0].equals(";");
            WeighedInBooks x = new WeighedInBooks();
            feedPlaces(x, length);
            int answer = x.town();
            c.isTrue(length + " letters answered " + answer, ends ? answer > 0 : answer == -1000 - length);
        }
    }
}
