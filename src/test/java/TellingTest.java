/** Promises 1 to 16: a town is told, looked at, changed, and what changed is taken back. */
public final class TellingTest {
    static final String FIRST_HALF = "p20550;p10310;p05001;b059war;b130ab;b241b;b369aaaa;";
    static final String SECOND_HALF = "b452z;b571zz;b639c;b719bib;";

    public static void main(String[] args) {
        Checks checks = new Checks();
        checks.test("promise 1, a new object", TellingTest::newObject);
        checks.test("promise 2, feed", TellingTest::feed);
        checks.test("promise 3, town: what comes", TellingTest::townComes);
        checks.test("promise 3, town: faults of letters", TellingTest::faultsOfLetters);
        checks.test("promise 3, town: faults of sense", TellingTest::faultsOfSense);
        checks.test("promise 3, town: a fault leaves all", TellingTest::faultLeavesAll);
        checks.test("promise 3, town: weeks in the text", TellingTest::weeksInTheText);
        checks.test("promise 4, person", TellingTest::person);
        checks.test("promise 5, book: what it weighs", TellingTest::weighs);
        checks.test("promise 5, book: the rest", TellingTest::book);
        checks.test("promise 6, title", TellingTest::title);
        checks.test("promise 7, comes", TellingTest::comes);
        checks.test("promise 8, brings", TellingTest::brings);
        checks.test("promise 9, eats", TellingTest::eats);
        checks.test("promise 10, reads", TellingTest::reads);
        checks.test("promise 11, lends", TellingTest::lends);
        checks.test("promise 12, buys", TellingTest::buys);
        checks.test("promise 13, step", TellingTest::step);
        checks.test("promise 13, step: 4 to 7 make nothing of n", TellingTest::stepIgnoresNumber);
        checks.test("promise 14, clearLaw", TellingTest::clearLaw);
        checks.test("promise 15, weeks: bounds", TellingTest::weeksBounds);
        checks.test("promise 15, weeks: eating", TellingTest::weeksEating);
        checks.test("promise 15, weeks: reading", TellingTest::weeksReading);
        checks.test("promise 16, back: each change", TellingTest::backEach);
        checks.test("promise 16, back: eight at most", TellingTest::backEight);
        checks.test("promise 16, back: what leaves none", TellingTest::backNone);
        checks.end();
    }

    static WeighedInBooks base() {
        return Checks.town(FIRST_HALF, SECOND_HALF);
    }

    private static void newObject(Checks c) {
        WeighedInBooks x = new WeighedInBooks();
        for (int what = 0; what <= 8; what++) {
            c.due("count(" + what + ")", x.count(what), 0);
        }
        for (int what = 11; what <= 16; what++) {
            c.due("count(" + what + ")", x.count(what), 0);
        }
        c.due("person(0, 0)", x.person(0, 0), -1);
        c.due("book(0, 0)", x.book(0, 0), -1);
        c.due("back()", x.back(), -3);
        c.due("restore()", x.restore(), -3);
        c.due("over(0, 1)", x.over(0, 1), 1000000001);
        c.due("kinds(0)", x.kinds(0), 0);
        c.due("judge()", x.judge(), -9);
    }

    private static void feed(Checks c) {
        WeighedInBooks x = new WeighedInBooks();
        c.due("feed(-1)", x.feed(-1), -4);
        c.due("feed(256)", x.feed(256), -6);
        c.due("feed(0)", x.feed(0), 1);
        c.due("feed(255)", x.feed(255), 2);
        for (int i = 3; i <= 96; i++) {
            c.due("feed, the " + i + "th", x.feed('a'), i);
        }
        c.due("feed, the 97th", x.feed('a'), -6);
        c.due("feed(-1) of a full one", x.feed(-1), -4);
        c.due("letters", x.count(5), 96);
        c.due("refused -4", x.count(14), 2);
        c.due("refused -6", x.count(16), 2);
    }

    private static void townComes(Checks c) {
        WeighedInBooks x = new WeighedInBooks();
        c.due("7 statements", Checks.told(x, FIRST_HALF), 7);
        c.due("letters", x.count(5), 0);
        c.due("4 statements", Checks.told(x, SECOND_HALF), 4);
        c.due("people", x.count(0), 3);
        c.due("books", x.count(1), 8);
        c.due("law, readings, holders", Checks.told(x, "la05l00c99t01duho;r0war;r0war;r2war;h1war;h9ab;w01;"), -2000);
        c.due("law, readings, holders", Checks.told(x, "la05l00t01duo;r0war;r0war;r2war;h1war;h9ab;"), 6);
        c.due("steps", x.count(3), 6);
        c.due("readers of war", x.book(0, 4), 5);
        c.due("holder of war", x.book(0, 3), 1);
        c.due("holder of ab", x.book(1, 3), 9);
        c.due("owner of ab", x.book(1, 2), 0);
        c.due("a law of none", Checks.told(x, "l;"), 1);
        c.due("steps", x.count(3), 0);
        c.due("a law instead of another", Checks.told(x, "la05;lo;"), 2);
        c.due("steps", x.count(3), 1);
        c.due("3 for a week", Checks.told(x, "w03;"), 1);
        c.due("week", x.count(2), 3);
    }

    private static void fault(Checks c, String text, int due) {
        c.due("a TOWN \"" + text + "\"", Checks.told(new WeighedInBooks(), text), due);
    }

    private static void faultsOfLetters(Checks c) {
        fault(c, "", -1000);
        fault(c, ";", -1000);
        fault(c, "x", -1000);
        fault(c, "P20550;", -1000);
        fault(c, "p", -1001);
        fault(c, "p1", -1002);
        fault(c, "p2055;", -1005);
        fault(c, "p205500;", -1006);
        fault(c, "p20550", -1006);
        fault(c, "p20550;", 1);
        fault(c, "p20550;;", -1007);
        fault(c, "p20550;x", -1007);
        fault(c, "p20550;p", -1008);
        fault(c, "p-0550;", -1001);
        fault(c, "b009;", -1004);
        fault(c, "b009A;", -1004);
        fault(c, "b009`;", -1004);
        fault(c, "b009{;", -1004);
        fault(c, "b009a1;", -1005);
        fault(c, "b009abcdefgh", -1012);
        fault(c, "b00a;", -1003);
        fault(c, "r0;", -1002);
        fault(c, "ra;", -1001);
        fault(c, "h;", -1001);
        fault(c, "h9;", -1002);
        fault(c, "w1;", -1002);
        fault(c, "w001;", -1003);
        fault(c, "l", -1001);
        fault(c, "la;", -1002);
        fault(c, "la5;", -1003);
        fault(c, "la005;", -1004);
        fault(c, "ld05;", -1002);
        fault(c, "lx;", -1001);
        fault(c, "lddux;", -1004);
        fault(c, "lc/5;", -1002);
        fault(c, "lc5:;", -1003);
        WeighedInBooks x = new WeighedInBooks();
        StringBuilder full = new StringBuilder();
        for (int i = 0; i < 24; i++) {
            full.append("w01;");
        }
        c.due("96 letters", Checks.told(x, full.toString()), 24);
        c.due("week", x.count(2), 24);
        full.setCharAt(95, '0');
        c.due("96 letters, the last wrong", Checks.told(x, full.toString()), -1095);
        full.setCharAt(95, 'a');
        full.setCharAt(92, 'l');
        full.setCharAt(93, 'd');
        full.setCharAt(94, 'd');
        c.due("96 letters that end too soon", Checks.told(x, full.toString().replace("ldda", "lddd")), -1096);
        c.due("a letter above 127", x.feed(200), 1);
        c.due("town()", x.town(), -1000);
    }

    private static void faultsOfSense(Checks c) {
        fault(c, "b809a;", -2000);
        fault(c, "b799a;", 1);
        fault(c, "b000a;", -2000);
        fault(c, "p20550;b000a;", 2);
        fault(c, "p20550;b001a;", -2007);
        fault(c, "p20550;b008a;", -2007);
        fault(c, "b009abcd;", 1);
        fault(c, "b009abcde;", -2000);
        fault(c, "b009a;b109a;", -2006);
        fault(c, "b009a;b109aa;", 2);
        fault(c, "b009a;r0a;", -2006);
        fault(c, "p20550;b009a;r0a;", 3);
        fault(c, "p20550;b009a;r0b;", -2013);
        fault(c, "p20550;b009a;r0aa;", -2013);
        fault(c, "p20550;b009a;r1a;", -2013);
        fault(c, "p20550;b009a;r9a;", -2013);
        fault(c, "p20550;b009abcd;r0abcde;", -2016);
        fault(c, "p20550;r0a;b009a;", -2007);
        fault(c, "b009a;h9a;", 2);
        fault(c, "b009a;h0a;", -2006);
        fault(c, "b009a;h8a;", -2006);
        fault(c, "p20550;b009a;h0a;", 3);
        fault(c, "p20550;b009a;h0c;", -2013);
        fault(c, "w00;", -2000);
        fault(c, "w01;", 1);
        fault(c, "w60;", 1);
        fault(c, "w61;", -2000);
        fault(c, "w99;", -2000);
        fault(c, "ldddddd;", 1);
        fault(c, "lddddddd;", -2000);
        fault(c, "la01l02c03t04dua07;", -2000);
        fault(c, "p00000;p00000;p00000;p00000;p00000;p00000;", 6);
        fault(c, "p99999;p00000;p00000;p00000;p00000;p00000;p00000;", -2042);
        fault(c, "b009a;b009b;b009c;b009d;b009e;b009f;b009g;b009h;b009i;b009j;", 10);
        fault(c, "b009a;b009b;b009c;b009d;b009e;b009f;b009g;b009h;b009i;b009j;b009k;", -2060);
        fault(c, "b809a;x", -1006);
        fault(c, "b809a;w00;", -2000);
        WeighedInBooks x = new WeighedInBooks();
        for (int i = 0; i < 16; i++) {
            x.weeks(60);
        }
        c.due("WEEK above 999", Checks.told(x, "w39;w01;"), -2004);
        c.due("week", x.count(2), 960);
        c.due("WEEK 999", Checks.told(x, "w39;"), 1);
        c.due("week", x.count(2), 999);
        c.due("one more", Checks.told(x, "w01;"), -2000);
    }

    private static void faultLeavesAll(Checks c) {
        WeighedInBooks x = base();
        x.step(0, 5);
        x.row(3);
        c.due("a fault of sense", Checks.told(x, "p11111;b009q;r0q;h1ab;ld;w05;p1111;"), -1034);
        c.due("a fault of sense", Checks.told(x, "p11111;b009q;r0q;h1ab;ld;w05;b009q;"), -2029);
        c.due("people", x.count(0), 3);
        c.due("books", x.count(1), 8);
        c.due("week", x.count(2), 0);
        c.due("steps", x.count(3), 1);
        c.due("letters", x.count(5), 0);
        c.due("row", x.count(6), 1);
        c.due("to take back", x.count(7), 1);
        c.due("holder of ab", x.book(1, 3), 0);
        for (int what = 11; what <= 16; what++) {
            c.due("count(" + what + ")", x.count(what), 0);
        }
    }

    private static void weeksInTheText(Checks c) {
        WeighedInBooks x = new WeighedInBooks();
        c.due("a week between", Checks.told(x, "p20050;b029b;h0b;w01;b029c;h0c;"), 6);
        c.due("b is read", x.book(0, 4), 1);
        c.due("b is given back", x.book(0, 3), 9);
        c.due("c is not read", x.book(1, 4), 0);
        c.due("c is held", x.book(1, 3), 0);
        c.due("two weeks more", Checks.told(x, "w01;"), 1);
        c.due("c is read", x.book(1, 4), 1);
        c.due("weight", x.person(0, 0), 21);
    }

    private static void person(Checks c) {
        WeighedInBooks x = base();
        int[][] due = {{20, 5, 50, 0, 1, 1}, {10, 3, 10, 0, 2, 2}, {5, 0, 1, 0, 1, 1}};
        for (int person = 0; person < 3; person++) {
            for (int what = 0; what < 6; what++) {
                c.due("person(" + person + ", " + what + ")", x.person(person, what), due[person][what]);
            }
        }
        x.reads(0, 3);
        x.reads(0, 7);
        x.lends(3, 0);
        c.due("he has read", x.person(0, 3), 2);
        c.due("he holds", x.person(0, 4), 2);
        c.due("he owns", x.person(0, 5), 1);
        x.buys(0, 0);
        c.due("he owns one more", x.person(0, 5), 2);
        c.due("person(3, 0)", x.person(3, 0), -1);
        c.due("person(-1, 0)", x.person(-1, 0), -1);
        c.due("person(9, 0)", x.person(9, 0), -1);
        c.due("person(0, 6)", x.person(0, 6), -2);
        c.due("person(0, -1)", x.person(0, -1), -2);
        c.due("person(3, 6)", x.person(3, 6), -1);
        c.due("refused -1", x.count(11), 4);
        c.due("refused -2", x.count(12), 2);
    }

    private static void weighs(Checks c) {
        int[][] even = {{0, 6, 7, 8}, {2, 6, 7, 8}, {8, 8, 8, 8}, {11, 7, 8, 9}, {2, 9, 11, 13}, {9, 9, 9, 9},
            {8, 4, 5, 6}, {10, 10, 10, 10}, {10, 13, 15, 17}};
        for (int week = 1; week <= 6; week++) {
            WeighedInBooks x = Checks.town("w0" + week + ";", FIRST_HALF, SECOND_HALF, "b799bibl;");
            int odd = week % 2;
            for (int read = 0; read <= 3; read++) {
                for (int book = 0; book < 9; book++) {
                    int due = even[book][read] + (odd == 1 && book == 6 ? 3 : 0);
                    c.due("book " + book + " read by " + read + ", week " + week, x.book(book, 5), due);
                    x.reads(read, book);
                }
            }
        }
    }

    private static void book(Checks c) {
        WeighedInBooks x = Checks.town(FIRST_HALF, SECOND_HALF, "b509abcd;b519abc;");
        int[] figure = {5, 3, 4, 6, 5, 7, 3, 1};
        int[] owner = {9, 0, 1, 9, 2, 1, 9, 9};
        int[] price = {6, 2, 15, 1, 7, 19, 5, 0};
        int[] length = {3, 2, 1, 4, 1, 2, 1, 3};
        for (int book = 0; book < 8; book++) {
            c.due("kind of " + book, x.book(book, 0), book);
            c.due("figure of " + book, x.book(book, 1), figure[book]);
            c.due("owner of " + book, x.book(book, 2), owner[book]);
            c.due("holder of " + book, x.book(book, 3), owner[book]);
            c.due("readers of " + book, x.book(book, 4), 0);
            c.due("price of " + book, x.book(book, 6), price[book]);
            c.due("letters of " + book, x.book(book, 7), length[book]);
        }
        c.due("price of a dictionary of 0", x.book(8, 6), 0);
        c.due("price of a dictionary of 1", x.book(9, 6), 1);
        c.due("weight of a dictionary of 0", x.book(8, 5), 4);
        x.lends(1, 2);
        x.reads(2, 1);
        x.reads(0, 1);
        c.due("owner stays", x.book(1, 2), 0);
        c.due("holder", x.book(1, 3), 2);
        c.due("readers", x.book(1, 4), 5);
        c.due("book(10, 0)", x.book(10, 0), -1);
        c.due("book(-1, 0)", x.book(-1, 0), -1);
        c.due("book(0, 8)", x.book(0, 8), -2);
        c.due("book(0, -1)", x.book(0, -1), -2);
        c.due("book(10, 8)", x.book(10, 8), -1);
    }

    private static void title(Checks c) {
        WeighedInBooks x = base();
        c.due("title(0, 0)", x.title(0, 0), 'w' - 'a');
        c.due("title(0, 1)", x.title(0, 1), 0);
        c.due("title(0, 2)", x.title(0, 2), 'r' - 'a');
        c.due("title(0, 3)", x.title(0, 3), -9);
        c.due("title(0, 4)", x.title(0, 4), -9);
        c.due("title(0, 1000)", x.title(0, 1000), -9);
        c.due("title(3, 3)", x.title(3, 3), 0);
        c.due("title(3, 4)", x.title(3, 4), -9);
        c.due("title(4, 0)", x.title(4, 0), 25);
        c.due("title(4, 1)", x.title(4, 1), -9);
        c.due("title(8, 0)", x.title(8, 0), -1);
        c.due("title(8, -1)", x.title(8, -1), -1);
        c.due("title(-1, 0)", x.title(-1, 0), -1);
        c.due("title(0, -1)", x.title(0, -1), -4);
    }

    private static void comes(Checks c) {
        WeighedInBooks x = new WeighedInBooks();
        c.due("the first", x.comes(99, 9, 99), 0);
        c.due("the second", x.comes(0, 0, 0), 1);
        c.due("weight", x.person(0, 0), 99);
        c.due("appetite", x.person(0, 1), 9);
        c.due("purse", x.person(0, 2), 99);
        c.due("weight below", x.comes(-1, 10, 100), -4);
        c.due("appetite below", x.comes(100, -1, 100), -4);
        c.due("purse below", x.comes(100, 10, -1), -4);
        c.due("weight above", x.comes(100, 9, 99), -6);
        c.due("appetite above", x.comes(99, 10, 99), -6);
        c.due("purse above", x.comes(99, 9, 100), -6);
        for (int i = 2; i < 6; i++) {
            c.due("one more", x.comes(i, i, i), i);
        }
        c.due("a seventh", x.comes(0, 0, 0), -6);
        c.due("a seventh below", x.comes(0, 0, -1), -4);
        c.due("people", x.count(0), 6);
    }

    private static void brings(Checks c) {
        WeighedInBooks x = Checks.town("p20550;b009z;b009ab;");
        c.due("kind below", x.brings(-1, -1, 5, 0), -2);
        c.due("kind above", x.brings(8, -1, 5, 0), -2);
        c.due("figure below", x.brings(0, -1, 5, 26), -4);
        c.due("letter below", x.brings(0, 10, 5, -1), -4);
        c.due("figure above", x.brings(0, 10, 5, 25), -6);
        c.due("letter above", x.brings(0, 9, 5, 26), -6);
        c.due("no such owner", x.brings(0, 9, 1, 25), -1);
        c.due("no such owner", x.brings(0, 9, -1, 3), -1);
        c.due("no such owner", x.brings(0, 9, 8, 3), -1);
        c.due("the title is there", x.brings(0, 9, 9, 25), -3);
        c.due("a title that another begins with", x.brings(7, 9, 9, 0), 2);
        c.due("one of people", x.brings(3, 0, 0, 24), 3);
        c.due("kind", x.book(2, 0), 7);
        c.due("figure", x.book(2, 1), 9);
        c.due("owner", x.book(2, 2), 9);
        c.due("holder", x.book(2, 3), 9);
        c.due("title", x.title(2, 0), 0);
        c.due("its end", x.title(2, 1), -9);
        c.due("owner", x.book(3, 2), 0);
        c.due("holder", x.book(3, 3), 0);
        for (int i = 4; i < 10; i++) {
            c.due("one more", x.brings(0, 0, 9, i), i);
        }
        c.due("an eleventh", x.brings(0, 0, 9, 10), -6);
        c.due("an eleventh of nobody", x.brings(0, 0, 7, 0), -6);
        c.due("an eleventh below", x.brings(0, -1, 7, 0), -4);
        c.due("books", x.count(1), 10);
    }

    private static void eats(Checks c) {
        WeighedInBooks x = base();
        c.due("eats(0, 99)", x.eats(0, 99), 20);
        c.due("eats(0, 0)", x.eats(0, 0), 99);
        c.due("eats(0, 0) again", x.eats(0, 0), 0);
        c.due("weight", x.person(0, 0), 0);
        c.due("another's weight", x.person(1, 0), 10);
        c.due("nobody", x.eats(3, -1), -1);
        c.due("nobody", x.eats(-1, 5), -1);
        c.due("below", x.eats(0, -1), -4);
        c.due("above", x.eats(0, 100), -6);
        c.due("to take back", x.count(7), 3);
    }

    private static void reads(Checks c) {
        WeighedInBooks x = base();
        x.lends(0, 1);
        c.due("reads(1, 0)", x.reads(1, 0), 1);
        c.due("reads(1, 0) again", x.reads(1, 0), 0);
        c.due("reads(2, 0)", x.reads(2, 0), 1);
        c.due("readers", x.book(0, 4), 6);
        c.due("it is not given back", x.book(0, 3), 1);
        c.due("nobody", x.reads(3, 0), -1);
        c.due("nobody", x.reads(-1, 0), -1);
        c.due("no book", x.reads(0, 8), -1);
        c.due("no book", x.reads(0, -1), -1);
        c.due("to take back", x.count(7), 4);
        c.due("refused", x.count(11), 4);
    }

    private static void lends(Checks c) {
        WeighedInBooks x = base();
        c.due("lends(1, 2)", x.lends(1, 2), 0);
        c.due("lends(1, 9)", x.lends(1, 9), 2);
        c.due("lends(1, 9) again", x.lends(1, 9), 9);
        c.due("holder", x.book(1, 3), 9);
        c.due("owner", x.book(1, 2), 0);
        c.due("nobody", x.lends(1, 3), -1);
        c.due("nobody", x.lends(1, 8), -1);
        c.due("nobody", x.lends(1, 10), -1);
        c.due("nobody", x.lends(1, -1), -1);
        c.due("no book", x.lends(8, 0), -1);
        c.due("no book", x.lends(-1, 0), -1);
        c.due("to take back", x.count(7), 3);
    }

    private static void buys(Checks c) {
        WeighedInBooks x = base();
        x.lends(0, 1);
        c.due("buys(0, 0)", x.buys(0, 0), 44);
        c.due("owner", x.book(0, 2), 0);
        c.due("holder", x.book(0, 3), 0);
        c.due("purse", x.person(0, 2), 44);
        c.due("it is not the town's", x.buys(1, 0), -3);
        c.due("it is his own", x.buys(0, 1), -3);
        c.due("too dear", x.buys(2, 6), -3);
        c.due("all that he has", x.buys(2, 3), 0);
        c.due("for nothing", x.buys(2, 7), 0);
        c.due("nobody", x.buys(3, 6), -1);
        c.due("no book", x.buys(0, 8), -1);
        c.due("no book", x.buys(0, -1), -1);
        c.due("to take back", x.count(7), 4);
        c.due("refused -3", x.count(13), 3);
    }

    private static void step(Checks c) {
        WeighedInBooks x = new WeighedInBooks();
        c.due("below a", x.step(-1, -1), -2);
        c.due("above o", x.step(8, 100), -2);
        for (int step = 0; step < 8; step++) {
            c.due("below, step " + step, x.step(step, -1), -4);
            c.due("far below, step " + step, x.step(step, Integer.MIN_VALUE), -4);
            c.due("above, step " + step, x.step(step, 100), -6);
            c.due("far above, step " + step, x.step(step, Integer.MAX_VALUE), -6);
        }
        c.due("none came", x.count(3), 0);
        c.due("a 0", x.step(0, 0), 1);
        c.due("t 99", x.step(3, 99), 2);
        c.due("d 0", x.step(4, 0), 3);
        c.due("u 99", x.step(5, 99), 4);
        c.due("h 0", x.step(6, 0), 5);
        c.due("o 7", x.step(7, 7), 6);
        c.due("a seventh", x.step(7, 0), -6);
        c.due("a seventh", x.step(0, 5), -6);
        c.due("a seventh below", x.step(0, -1), -4);
        c.due("a seventh below", x.step(7, -1), -4);
        c.due("a seventh that is none", x.step(8, 0), -2);
        c.due("steps", x.count(3), 6);
        c.due("to take back", x.count(7), 6);
        c.due("refused -2", x.count(12), 3);
        c.due("refused -4", x.count(14), 18);
        c.due("refused -6", x.count(16), 18);
    }

    private static void stepIgnoresNumber(Checks c) {
        for (int n = 0; n <= 99; n += 33) {
            WeighedInBooks x = Checks.town("w01;p20550;p10310;b240y;");
            c.due("d, " + n, x.step(4, n), 1);
            c.due("twice only if both have read it", x.pan(0, 1, 0), 8);
            x.reads(0, 0);
            x.reads(1, 0);
            c.due("twice", x.pan(0, 1, 0), 16);
            c.due("h, " + n, x.step(6, n), 2);
            c.due("half", x.pan(0, 1, 0), 8);
            c.due("o, " + n, x.step(7, n), 3);
            c.due("1 more", x.pan(0, 1, 0), 9);
            c.due("u, " + n, x.step(5, n), 4);
            c.due("as it is", x.pan(0, 1, 0), 9);
            for (int i = 0; i < 5; i++) {
                x.back();
            }
            x.step(5, n);
            c.due("0", x.pan(0, 1, 0), 0);
        }
    }

    private static void clearLaw(Checks c) {
        WeighedInBooks x = base();
        x.step(0, 7);
        x.step(6, 0);
        c.due("by the law", x.pan(0, 1, 2), 7);
        c.due("clearLaw()", x.clearLaw(), 2);
        c.due("without", x.pan(0, 1, 2), 8);
        c.due("clearLaw() again", x.clearLaw(), 0);
        c.due("steps", x.count(3), 0);
        c.due("to take back", x.count(7), 4);
    }

    private static void weeksBounds(Checks c) {
        WeighedInBooks x = new WeighedInBooks();
        c.due("weeks(0)", x.weeks(0), -4);
        c.due("weeks(-1)", x.weeks(-1), -4);
        c.due("weeks(61)", x.weeks(61), -6);
        c.due("weeks(1)", x.weeks(1), 1);
        c.due("weeks(59)", x.weeks(59), 60);
        for (int i = 2; i <= 16; i++) {
            c.due("weeks(60)", x.weeks(60), 60 * i);
        }
        c.due("weeks(40)", x.weeks(40), -6);
        c.due("weeks(39)", x.weeks(39), 999);
        c.due("weeks(1)", x.weeks(1), -6);
        c.due("weeks(0)", x.weeks(0), -4);
        c.due("weeks(2147483647)", x.weeks(2147483647), -6);
    }

    private static void weeksEating(Checks c) {
        WeighedInBooks x = base();
        x.weeks(1);
        c.due("nobody eats in week 1", x.count(4), 35);
        x.weeks(1);
        c.due("weight of 2", x.person(2, 0), 6);
        c.due("weight of all", x.count(4), 36);
        x.weeks(33);
        c.due("weight of 0", x.person(0, 0), 25);
        c.due("weight of 1", x.person(1, 0), 17);
        c.due("weight of 2", x.person(2, 0), 22);
        x.eats(2, 98);
        x.weeks(1);
        c.due("weight of 2", x.person(2, 0), 99);
        x.weeks(6);
        c.due("99 held", x.person(2, 0), 99);
    }

    private static void weeksReading(Checks c) {
        WeighedInBooks x = Checks.town(FIRST_HALF, SECOND_HALF, "h0war;h0bib;h0b;");
        int[] order = {1, 2, 7, 0};
        int[] then = {0, 1, 9, 9};
        for (int i = 0; i < order.length; i++) {
            c.due("unread", x.book(order[i], 4) & 1, 0);
            x.weeks(1);
            c.due("read", x.book(order[i], 4) & 1, 1);
            c.due("its holder", x.book(order[i], 3), then[i]);
        }
        c.due("b, given back, is read the same week", x.then(0, 1, 2), 2);
        c.due("all that he had", x.person(0, 3), 4);
        WeighedInBooks y = Checks.town("p20550;p10310;b051x;h0x;b050y;h1y;");
        y.weeks(1);
        c.due("x is read by both", y.book(0, 4), 3);
        c.due("x is with its owner", y.book(0, 3), 1);
        c.due("y waits", y.book(1, 4), 0);
        y.weeks(1);
        c.due("y is read by 1", y.book(1, 4), 2);
        c.due("y is with its owner", y.book(1, 3), 0);
        y.weeks(1);
        c.due("y is read by both", y.book(1, 4), 3);
    }

    private static void backEach(Checks c) {
        WeighedInBooks x = base();
        x.step(0, 3);
        x.eats(0, 7);
        x.reads(0, 0);
        x.lends(1, 2);
        x.buys(0, 0);
        x.step(6, 0);
        x.clearLaw();
        x.weeks(2);
        c.due("to take back", x.count(7), 8);
        c.due("weeks", x.back(), 7);
        c.due("week", x.count(2), 0);
        c.due("b is unread", x.book(2, 4), 0);
        c.due("weight of 2", x.person(2, 0), 5);
        c.due("clearLaw", x.back(), 6);
        c.due("steps", x.count(3), 2);
        c.due("by the law", x.pan(0, 1, 2), 5);
        c.due("step", x.back(), 5);
        c.due("steps", x.count(3), 1);
        c.due("buys", x.back(), 4);
        c.due("owner", x.book(0, 2), 9);
        c.due("holder", x.book(0, 3), 9);
        c.due("purse", x.person(0, 2), 50);
        c.due("lends", x.back(), 3);
        c.due("holder", x.book(1, 3), 0);
        c.due("reads", x.back(), 2);
        c.due("readers", x.book(0, 4), 0);
        c.due("eats", x.back(), 1);
        c.due("weight", x.person(0, 0), 20);
        c.due("step", x.back(), 0);
        c.due("steps", x.count(3), 0);
        c.due("none", x.back(), -3);
        c.due("refused -3", x.count(13), 1);
    }

    private static void backEight(Checks c) {
        WeighedInBooks x = base();
        for (int i = 1; i <= 11; i++) {
            x.eats(0, 30 + i);
        }
        c.due("to take back", x.count(7), 8);
        for (int i = 7; i >= 5; i--) {
            c.due("back()", x.back(), i);
            c.due("weight", x.person(0, 0), 33 + i);
        }
        for (int i = 0; i < 5; i++) {
            x.eats(0, 60 + i);
        }
        c.due("to take back", x.count(7), 8);
        for (int i = 7; i >= 0; i--) {
            c.due("back()", x.back(), i);
        }
        c.due("weight", x.person(0, 0), 35);
        c.due("none", x.back(), -3);
        c.due("weight", x.person(0, 0), 35);
    }

    private static void backNone(Checks c) {
        WeighedInBooks x = base();
        x.image();
        x.weeks(1);
        x.image();
        x.comes(-1, 0, 0);
        x.brings(0, 0, 9, 25);
        Checks.told(x, "b009war;");
        c.due("refused ones leave it", x.count(7), 1);
        x.comes(0, 0, 0);
        c.due("comes()", x.count(7), 0);
        x.reads(0, 1);
        c.due("what stays as it was counts", x.count(7), 1);
        x.brings(0, 0, 9, 24);
        c.due("brings()", x.count(7), 0);
        x.weeks(1);
        Checks.told(x, "l;");
        c.due("town()", x.count(7), 0);
        x.weeks(1);
        x.restore();
        c.due("restore()", x.count(7), 0);
        c.due("none", x.back(), -3);
        x.weeks(1);
        c.due("back()", x.back(), 0);
    }
}
