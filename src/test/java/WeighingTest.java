/** Promises 17 to 30: two on the pan, now and in mind. */
public final class WeighingTest {
    private static final long LONGS = 4000000000000000000L;

    public static void main(String[] args) {
        Checks checks = new Checks();
        checks.test("promise 17, over", WeighingTest::over);
        checks.test("promise 18, pan: each step", WeighingTest::panSteps);
        checks.test("promise 18, pan: the rest", WeighingTest::pan);
        checks.test("promise 19, overThen", WeighingTest::overThen);
        checks.test("promise 20, then", WeighingTest::then);
        checks.test("promise 21, when", WeighingTest::when);
        checks.test("promise 22, first", WeighingTest::first);
        checks.test("promise 23, buy", WeighingTest::buy);
        checks.test("promise 24, borrow", WeighingTest::borrow);
        checks.test("promise 25, taught", WeighingTest::taught);
        checks.test("promise 26, couples", WeighingTest::couples);
        checks.test("promise 27, heaviest", WeighingTest::heaviest);
        checks.test("promise 28, whatKind", WeighingTest::whatKind);
        checks.test("promise 29, two", WeighingTest::two);
        checks.test("promise 30, damp", WeighingTest::damp);
        checks.end();
    }

    private static WeighedInBooks base() {
        return TellingTest.base();
    }

    private static void over(Checks c) {
        WeighedInBooks x = base();
        c.due("over(0, 1)", x.over(0, 1), -11);
        c.due("over(1, 0)", x.over(1, 0), -11);
        c.due("over(0, 2)", x.over(0, 2), -21);
        c.due("over(1, 2)", x.over(1, 2), 4);
        x.step(0, 3);
        c.due("each book 3 heavier", x.over(1, 2), 13);
        c.due("over(0, 0)", x.over(0, 0), 1000000001);
        c.due("over(0, 3)", x.over(0, 3), 1000000001);
        c.due("over(-1, 0)", x.over(-1, 0), 1000000001);
        c.due("the town isn't weighed", x.over(0, 9), 1000000001);
        c.due("refused -1", x.count(11), 4);
    }

    /** An ATLAS of 9 weighs 18, read or not. */
    private static void stepped(Checks c, String law, int due, int... readers) {
        WeighedInBooks x = Checks.town("p20550;p10310;p05001;b299m;", law);
        for (int reader : readers) {
            x.reads(reader, 0);
        }
        c.due("by " + law + " with " + readers.length + " readers", x.pan(0, 1, 0), due);
    }

    private static void panSteps(Checks c) {
        stepped(c, "l;", 18);
        stepped(c, "la05;", 23);
        stepped(c, "la99;", 117);
        stepped(c, "ll05;", 13);
        stepped(c, "ll18;", 0);
        stepped(c, "ll19;", 0);
        stepped(c, "lc17;", 17);
        stepped(c, "lc18;", 18);
        stepped(c, "lc19;", 18);
        stepped(c, "lt18;", 18);
        stepped(c, "lt19;", 0);
        stepped(c, "ld;", 18);
        stepped(c, "ld;", 18, 0, 2);
        stepped(c, "ld;", 18, 0);
        stepped(c, "ld;", 18, 1);
        stepped(c, "ld;", 36, 0, 1);
        stepped(c, "lu;", 0);
        stepped(c, "lu;", 0, 2);
        stepped(c, "lu;", 18, 0);
        stepped(c, "lu;", 18, 1);
        stepped(c, "lu;", 18, 0, 1);
        stepped(c, "lh;", 9);
        stepped(c, "lhh;", 4);
        stepped(c, "lo;", 18);
        stepped(c, "lo;w01;", 19);
        stepped(c, "lo;w02;", 18);
        stepped(c, "lua05;", 5);
        stepped(c, "la05u;", 0);
        stepped(c, "ll99a05dhc04t04;", 4, 0, 1);
        stepped(c, "lddddda01;", 577, 0, 1);
    }

    private static void pan(Checks c) {
        WeighedInBooks x = base();
        c.due("a book on the pan", x.pan(1, 0, 5), 9);
        c.due("a book of another", x.pan(0, 1, 4), 2);
        c.due("a book of the town", x.pan(0, 1, 3), 11);
        c.due("one twice", x.pan(0, 0, 3), -1);
        c.due("nobody", x.pan(0, 3, 3), -1);
        c.due("no book", x.pan(0, 1, 8), -1);
        c.due("no book", x.pan(0, 1, -1), -1);
        x.step(5, 0);
        x.reads(2, 3);
        c.due("read by none of the two", x.pan(0, 1, 3), 0);
        c.due("read by one of the two", x.pan(0, 2, 3), 7);
    }

    private static void overThen(Checks c) {
        WeighedInBooks x = base();
        int[][] due = {{0, -11}, {1, -7}, {2, -7}, {5, -8}, {7, -9}, {60, -27}};
        for (int[] one : due) {
            c.due("overThen(0, 1, " + one[0] + ")", x.overThen(0, 1, one[0]), one[1]);
        }
        c.due("it was in mind", x.count(2), 0);
        c.due("it was in mind", x.book(1, 4), 0);
        c.due("nothing to take back", x.count(7), 0);
        c.due("one twice", x.overThen(0, 0, -1), 1000000001);
        c.due("nobody", x.overThen(3, 0, 61), 1000000001);
        c.due("below", x.overThen(0, 1, -1), 1000000004);
        c.due("above", x.overThen(0, 1, 61), 1000000006);
        for (int i = 0; i < 16; i++) {
            x.weeks(60);
        }
        x.weeks(39);
        x.eats(0, 20);
        x.eats(1, 10);
        c.due("past WEEK 999", x.overThen(0, 1, 1), 23 - 31);
        c.due("refused -1", x.count(11), 2);
        c.due("refused -4", x.count(14), 1);
        c.due("refused -6", x.count(16), 1);
    }

    private static void then(Checks c) {
        WeighedInBooks x = base();
        x.lends(0, 0);
        c.due("weight now", x.then(0, 0, 2), 5);
        c.due("weight", x.then(2, 0, 2), 6);
        c.due("weight", x.then(60, 0, 2), 35);
        c.due("read now", x.then(0, 1, 1), 0);
        c.due("read", x.then(1, 1, 1), 1);
        c.due("holder now", x.then(0, 2, 0), 0);
        c.due("holder, unread", x.then(1, 2, 0), 0);
        c.due("holder, read", x.then(2, 2, 0), 9);
        c.due("it was in mind", x.book(0, 3), 0);
        c.due("below", x.then(-1, 3, 9), -4);
        c.due("above", x.then(61, 3, 9), -6);
        c.due("another what", x.then(0, 3, 9), -2);
        c.due("another what", x.then(0, -1, 9), -2);
        c.due("nobody", x.then(0, 0, 3), -1);
        c.due("no book", x.then(0, 1, 8), -1);
        c.due("no book", x.then(0, 2, -1), -1);
    }

    private static void when(Checks c) {
        WeighedInBooks x = base();
        c.due("now", x.when(1, 2), 0);
        c.due("never", x.when(0, 1), -9);
        c.due("one twice", x.when(0, 0), -1);
        c.due("nobody", x.when(0, 3), -1);
        WeighedInBooks y = Checks.town("p03900;p03900;b050n;");
        c.due("when read", y.when(0, 1), 1);
        c.due("in mind", y.book(0, 4), 0);
        WeighedInBooks z = Checks.town("p07900;p00900;b000a;b000b;b000c;b000d;b000e;b000f;b000g;");
        c.due("as the last of seven is read", z.when(1, 0), 7);
    }

    private static void first(Checks c) {
        c.due("nobody", new WeighedInBooks().first(), -9);
        c.due("never", base().first(), -9);
        c.due("01 alone", Checks.town("p03900;p03900;p04900;b050n;").first(), 1);
        c.due("the first of two", Checks.town("p03900;p03900;p03900;b052n;").first(), 2);
        c.due("what is down now doesn't count", Checks.town("p03900;p03900;p03900;b052n;b230m;").first(), 12);
        WeighedInBooks x = Checks.town("p09900;p09900;p02900;p02900;b050a;b050b;b050c;b002d;b002e;b002f;b002g;");
        c.due("when of 01", x.when(0, 1), 3);
        c.due("when of 02", x.when(0, 2), 2);
        c.due("when of 23", x.when(2, 3), 4);
        c.due("the soonest", x.first(), 2);
        c.due("in mind", x.count(2), 0);
    }

    private static void buy(Checks c) {
        WeighedInBooks x = base();
        c.due("one for as little as two", x.buy(0, 1, 0), 8);
        c.due("its price", x.buy(0, 1, 1), 1);
        c.due("two", x.buy(0, 2, 0), 136);
        c.due("their price", x.buy(2, 0, 1), 1);
        c.due("none is needed", x.buy(1, 2, 0), 0);
        c.due("none is needed", x.buy(1, 2, 1), 0);
        x.lends(3, 2);
        c.due("what a third holds", x.buy(0, 1, 0), 8);
        x.lends(3, 0);
        c.due("what one of the two holds", x.buy(0, 1, 0), 0);
        x.back();
        x.lends(7, 0);
        c.due("what one holds adds nothing", x.buy(0, 1, 0), 8);
        x.lends(7, 1);
        c.due("what the other holds adds nothing", x.buy(0, 1, 0), 8);
        x.lends(7, 9);
        x.step(5, 0);
        x.reads(0, 3);
        x.reads(1, 6);
        x.eats(0, 0);
        x.eats(1, 8);
        c.due("by the law", x.buy(0, 1, 0), 8 + 64);
        c.due("by the law", x.buy(0, 1, 1), 6);
        x.eats(0, 99);
        c.due("all isn't enough", x.buy(0, 1, 0), -9);
        c.due("all isn't enough", x.buy(0, 1, 1), -9);
        c.due("one twice", x.buy(0, 0, 2), -1);
        c.due("nobody", x.buy(3, 0, 0), -1);
        c.due("another what", x.buy(0, 1, 2), -2);
        c.due("another what", x.buy(0, 1, -1), -2);
        WeighedInBooks z = Checks.town("p04900;p04900;b299a;b399b;");
        c.due("less, found later", z.buy(0, 1, 0), 2);
        z.eats(0, 9);
        z.eats(1, 9);
        c.due("the dear one", z.buy(0, 1, 1), 30);
        Checks.told(z, "b399c;");
        c.due("two for less than one", z.buy(0, 1, 0), 6);
        WeighedInBooks w = Checks.town("p08900;p08900;b399a;b399b;b299c;");
        c.due("two for less than one, found first", w.buy(0, 1, 0), 3);
        c.due("two for less than one, found first", w.buy(0, 1, 1), 2);
        WeighedInBooks y = Checks.town("p05900;p05900;b759a;b759b;b209c;b759d;");
        c.due("the least bits", y.buy(0, 1, 0), 1);
        y.buys(0, 0);
        y.lends(0, 9);
        c.due("what is not the town's", y.buy(0, 1, 0), 2);
    }

    private static void borrow(Checks c) {
        WeighedInBooks x = base();
        c.due("at once", x.borrow(0, 1, 0), 3);
        c.due("at once", x.borrow(0, 1, 1), 0);
        c.due("any, if it comes down", x.borrow(1, 2, 0), 0);
        c.due("any, if it comes down", x.borrow(1, 2, 1), 0);
        c.due("as the rest is read, unread itself in an odd week", x.borrow(0, 2, 0), 6);
        c.due("as the rest is read, unread itself in an odd week", x.borrow(0, 2, 1), 1);
        x.eats(0, 99);
        c.due("none", x.borrow(0, 2, 0), -9);
        c.due("none", x.borrow(0, 2, 1), -9);
        x.lends(0, 1);
        c.due("none that one holds", x.borrow(1, 2, 0), 1);
        x.lends(0, 2);
        c.due("none that the other holds", x.borrow(1, 2, 0), 1);
        c.due("one twice", x.borrow(0, 0, 2), -1);
        c.due("nobody", x.borrow(3, 0, 0), -1);
        c.due("another what", x.borrow(0, 1, 2), -2);
        c.due("another what", x.borrow(0, 1, -1), -2);
        WeighedInBooks y = Checks.town("p03900;p03900;p00900;b052m;b050n;b051o;h2n;h9o;");
        c.due("as it is read, if it doesn't go back", y.borrow(0, 1, 0), 1);
        c.due("as it is read, if it doesn't go back", y.borrow(0, 1, 1), 1);
        c.due("read by 1, back to 0", y.borrow(1, 0, 0), 1);
        c.due("in mind", y.book(1, 3), 2);
        WeighedInBooks z = Checks.town("p03900;p03900;p00900;b061m;h2m;b351n;h9n;b351o;h9o;");
        c.due("the soonest", z.borrow(0, 1, 0), 1);
        c.due("the soonest", z.borrow(0, 1, 1), 0);
    }

    private static void taught(Checks c) {
        WeighedInBooks x = Checks.town("p03900;p03900;p00900;b050n;b130m;b360s;b059t;");
        c.due("the most", x.taught(2, 0, 1, 0), 0);
        c.due("one of the two", x.taught(0, 0, 1, 0), 0);
        x.reads(1, 0);
        c.due("more by another", x.taught(2, 0, 1, 0), 1);
        x.reads(1, 1);
        c.due("alike ones", x.taught(2, 0, 1, 0), 0);
        c.due("read already", x.taught(1, 0, 1, 0), -9);
        c.due("in mind", x.book(1, 4), 2);
        WeighedInBooks y = Checks.town("p03900;p03900;p00900;b361s;b059n;b049o;h0n;h0o;");
        c.due("now", y.taught(0, 0, 1, 0), 1);
        c.due("what he has read he keeps", y.taught(0, 0, 1, 2), 1);
        c.due("behind one week", y.taught(0, 0, 1, 1), 1);
        WeighedInBooks z = Checks.town("p03900;p03900;p00900;b361s;");
        c.due("less isn't more", z.taught(0, 0, 1, 0), -9);
        c.due("nobody", x.taught(3, 0, 1, -1), -1);
        c.due("nobody", x.taught(0, 3, 1, 61), -1);
        c.due("nobody", x.taught(0, 1, -1, 0), -1);
        c.due("the two are one", x.taught(0, 1, 1, 0), -1);
        c.due("below", x.taught(0, 0, 1, -1), -4);
        c.due("above", x.taught(0, 0, 1, 61), -6);
        c.due("60", x.taught(2, 0, 1, 60), 0);
        WeighedInBooks v = Checks.town("p03900;p03900;p00900;b051n;");
        c.due("what the other holds", v.taught(2, 0, 1, 0), 0);
        c.due("what none of the two holds", v.taught(2, 0, 2, 0), -9);
    }

    /** It comes down for two just if one holds an ATLAS that both have read. */
    private static WeighedInBooks pairs(String people, String... pairs) {
        WeighedInBooks x = Checks.town(people.replace("p", "p04900;"), "ldl08;");
        char title = 'a';
        for (String pair : pairs) {
            Checks.told(x, "b24" + pair.charAt(0) + title + ";r" + pair.charAt(0) + title + ";r" + pair.charAt(1) + title + ";");
            title++;
        }
        return x;
    }

    private static void couplesAre(Checks c, WeighedInBooks x, int many, int... partners) {
        c.due("how many", x.couples(-1), many);
        for (int person = 0; person < partners.length; person++) {
            c.due("the partner of " + person, x.couples(person), partners[person]);
        }
    }

    private static void couples(Checks c) {
        couplesAre(c, new WeighedInBooks(), 0);
        couplesAre(c, pairs("p"), 0, -9);
        couplesAre(c, pairs("ppp"), 0, -9, -9, -9);
        couplesAre(c, pairs("ppp", "01", "12"), 1, 1, 0, -9);
        couplesAre(c, pairs("ppp", "12"), 1, -9, 2, 1);
        couplesAre(c, pairs("ppp", "20", "21"), 1, 2, -9, 0);
        couplesAre(c, pairs("pppp", "01", "20", "31"), 2, 2, 3, 0, 1);
        couplesAre(c, pairs("pppp", "01", "23", "20", "31"), 2, 1, 0, 3, 2);
        couplesAre(c, pairs("pppppp", "01", "12", "23", "34", "45"), 3, 1, 0, 3, 2, 5, 4);
        couplesAre(c, pairs("pppppp", "02", "12", "32", "42", "52"), 1, 2, -9, 0, -9, -9, -9);
        couplesAre(c, pairs("pppppp", "05", "15", "14", "34"), 2, 5, 4, -9, -9, 1, 0);
        WeighedInBooks x = base();
        couplesAre(c, x, 1, -9, 2, 1);
        c.due("below -1", x.couples(-2), -1);
        c.due("nobody", x.couples(3), -1);
        c.due("the town", x.couples(9), -1);
    }

    private static void heaviest(Checks c) {
        WeighedInBooks x = base();
        int[] due = {5, 2, 4, -9, -9};
        for (int i = 0; i < due.length; i++) {
            c.due("heaviest(1, 2, " + i + ")", x.heaviest(1, 2, i), due[i]);
        }
        c.due("far behind", x.heaviest(1, 2, 2147483647), -9);
        x.step(2, 5);
        int[] cut = {2, 5, 4, -9};
        for (int i = 0; i < cut.length; i++) {
            c.due("cut, heaviest(2, 1, " + i + ")", x.heaviest(2, 1, i), cut[i]);
        }
        x.step(2, 0);
        int[] alike = {2, 4, 5, -9};
        for (int i = 0; i < alike.length; i++) {
            c.due("alike, heaviest(2, 1, " + i + ")", x.heaviest(2, 1, i), alike[i]);
        }
        x.clearLaw();
        x.lends(0, 1);
        c.due("the lightest", x.heaviest(1, 2, 3), 0);
        WeighedInBooks y = Checks.town("p00900;p00900;b250z;b250m;b240q;r1z;r0m;r0q;r1q;ld;");
        int[] doubled = {2, 1, 0};
        for (int i = 0; i < 3; i++) {
            c.due("doubled, heaviest(0, 1, " + i + ")", y.heaviest(0, 1, i), doubled[i]);
        }
        c.due("one twice", x.heaviest(1, 1, -1), -1);
        c.due("nobody", x.heaviest(1, 3, 0), -1);
        c.due("below", x.heaviest(1, 2, -1), -4);
        c.due("nothing on it", Checks.town("p00000;p00000;b009a;").heaviest(0, 1, 0), -9);
    }

    private static WeighedInBooks rowed(WeighedInBooks x, int... row) {
        x.clear();
        for (int v : row) {
            x.row(v);
        }
        return x;
    }

    private static void whatKind(Checks c) {
        WeighedInBooks x = base();
        c.due("no row, kinds", x.whatKind(0, 1, 2, 0), 255);
        c.due("no row, figures", x.whatKind(0, 1, 2, 1), 1023);
        rowed(x, -11);
        c.due("an ATLAS of 4", x.whatKind(0, 1, 2, 0), 4);
        c.due("an ATLAS of 4", x.whatKind(0, 1, 2, 1), 16);
        c.due("the row stays", x.count(6), 1);
        rowed(x, -10);
        c.due("a SERMON or LATIN", x.whatKind(1, 0, 2, 0), 8 + 64);
        c.due("no such ATLAS", x.whatKind(1, 0, 2, 1), 0);
        rowed(x, -10, -10);
        c.due("a SERMON", x.whatKind(0, 1, 2, 0), 8);
        rowed(x, -10, -7);
        c.due("LATIN", x.whatKind(0, 1, 2, 0), 64);
        rowed(x, -10, -7, 5);
        c.due("nothing", x.whatKind(0, 1, 2, 0), 0);
        rowed(x, -11, -7, -7, -7, -7, -8, -8, -9, -9, -9, -10, -10);
        c.due("twelve weeks", x.whatKind(0, 1, 2, 0), 4);
        rowed(x, -11, -7, -7, -7, -7, -8, -8, -9, -9, -9, -10, -9);
        c.due("twelve weeks, the last is not so", x.whatKind(0, 1, 2, 0), 0);
        x.lends(7, 0);
        rowed(x, -1);
        c.due("a BIBLE", x.whatKind(0, 1, 7, 0), 128);
        c.due("of any figure", x.whatKind(0, 1, 7, 1), 1023);
        rowed(x, -1);
        c.due("what is not on the pan, as it is so", x.whatKind(0, 1, 4, 0), 255);
        rowed(x, 0);
        c.due("what is not on the pan, as it isn't", x.whatKind(0, 1, 4, 1), 0);
        c.due("in mind", x.book(2, 0) * 100 + x.book(2, 1) * 10 + x.count(2), 240);
        WeighedInBooks y = rowed(Checks.town("p03900;p03900;b050n;"), -6, 0);
        c.due("a NOVEL of 5, as it is read", y.whatKind(0, 1, 0, 1), 32);
        c.due("a NOVEL, as it is read", y.whatKind(0, 1, 0, 0), 1);
        c.due("one twice", x.whatKind(0, 0, 2, 2), -1);
        c.due("nobody", x.whatKind(0, 3, 2, 0), -1);
        c.due("no book", x.whatKind(0, 1, 8, 0), -1);
        c.due("no book", x.whatKind(0, 1, -1, 0), -1);
        c.due("another what", x.whatKind(0, 1, 2, 2), -2);
        c.due("another what", x.whatKind(0, 1, 2, -1), -2);
    }

    private static void two(Checks c) {
        WeighedInBooks x = base();
        c.due("nothing to lose", x.two(0, 1, 1), 11);
        c.due("one twice", x.two(0, 0, 0), -1);
        c.due("nobody", x.two(0, 3, 31), -1);
        c.due("below", x.two(0, 1, 0), -4);
        c.due("above", x.two(0, 1, 31), -6);
        c.due("30", x.two(0, 1, 30), 11);
        String three = "p00900;p00900;b009a;b009b;b009c;h0a;h0b;h0c;";
        String others = "b009d;b009e;b009f;h1d;h1e;h1f;";
        c.due("both keep three", Checks.town(three, others).two(0, 1, 3), 0);
        c.due("two weeks: giving is as good", Checks.town(three, others).two(0, 1, 2), 0);
        c.due("one week: giving is better", Checks.town(three, others).two(0, 1, 1), 11);
        c.due("more if both gave, but not for one alone",
            Checks.town(three, others, "b000q;b000r;h1q;h1r;").two(0, 1, 3), 0);
        c.due("the one keeps", Checks.town(three).two(0, 1, 3), 1);
        c.due("the other keeps", Checks.town(three).two(1, 0, 3), 10);
        c.due("his own he keeps in any case", Checks.town("p00900;p00900;b000a;b000b;b000c;").two(0, 1, 9), 11);
        // What 1 gives back comes to 0, who then reads it: it does 1 no harm that 0 has it.
        c.due("to one another", Checks.town("p00900;p00900;b001a;b001b;b001c;h0a;h0b;h0c;").two(0, 1, 5), 1);
    }

    private static void dampIs(Checks c, WeighedInBooks x, int n, int t, long above, long below) {
        c.due("damp(0, 1, " + n + ", " + t + ", 0)", x.damp(0, 1, n, t, 0), above);
        c.due("damp(0, 1, " + n + ", " + t + ", 1)", x.damp(0, 1, n, t, 1), below);
    }

    private static void damp(Checks c) {
        WeighedInBooks novel = Checks.town("p03900;p03900;b050n;");
        dampIs(c, novel, 0, 2, 0, 1);
        dampIs(c, novel, 1, 2, 1, 2);
        dampIs(c, novel, 2, 3, 8, 9);
        dampIs(c, novel, 7, 20, 1279999999L, 1280000000L);
        dampIs(c, novel, 3, 4, 63, 64);
        WeighedInBooks sermon = Checks.town("p03900;p04900;b350s;");
        dampIs(c, sermon, 0, 2, 1, 1);
        dampIs(c, sermon, 2, 3, 1, 9);
        dampIs(c, sermon, 7, 20, 1, 1280000000L);
        WeighedInBooks both = Checks.town("p05900;p05900;b030m;b030n;");
        dampIs(c, both, 2, 2, 0, 1);
        both.eats(0, 3);
        dampIs(c, both, 2, 2, 1, 4);
        dampIs(c, both, 3, 2, 1, 2);
        dampIs(c, both, 3, 4, 27, 32);
        dampIs(c, both, 4, 10, 9963, 10000);
        WeighedInBooks hungry = Checks.town("p03000;p03900;b050n;");
        dampIs(c, hungry, 1, 2, 1, 2);
        dampIs(c, hungry, 2, 2, 0, 1);
        WeighedInBooks twoReaders = Checks.town("p03900;p03900;b041n;h0n;");
        dampIs(c, twoReaders, 1, 5, 4, 5);
        c.due("in mind", novel.book(0, 4) + novel.count(2), 0);
        c.due("one twice", novel.damp(0, 0, -1, 1, 2), LONGS + 1);
        c.due("nobody", novel.damp(0, 2, 0, 2, 0), LONGS + 1);
        c.due("n below", novel.damp(0, 1, -1, 21, 2), LONGS + 4);
        c.due("t below", novel.damp(0, 1, 8, 1, 2), LONGS + 4);
        c.due("n above", novel.damp(0, 1, 8, 2, 2), LONGS + 6);
        c.due("t above", novel.damp(0, 1, 7, 21, 2), LONGS + 6);
        c.due("another part", novel.damp(0, 1, 7, 20, 2), LONGS + 2);
        c.due("another part", novel.damp(0, 1, 7, 20, -1), LONGS + 2);
        c.due("refused -4", novel.count(14), 2);
        c.due("refused -2", novel.count(12), 2);
    }
}
