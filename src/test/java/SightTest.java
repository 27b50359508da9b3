/** Promises 31 to 44: titles, shelves, sights, the row, lots, the image, counts. */
public final class SightTest {
    private static final long LONGS = 4000000000000000000L;

    public static void main(String[] args) {
        Checks checks = new Checks();
        checks.test("promise 31, titles", SightTest::titles);
        checks.test("promise 32, from", SightTest::from);
        checks.test("promise 33, shelf", SightTest::shelf);
        checks.test("promise 34, sight: closest", SightTest::closest);
        checks.test("promise 34, sight: the rest", SightTest::sight);
        checks.test("promise 35, share", SightTest::share);
        checks.test("promise 36, byHeart", SightTest::byHeart);
        checks.test("promise 37, kinds", SightTest::kinds);
        checks.test("promise 38, row", SightTest::row);
        checks.test("promise 39, judge", SightTest::judge);
        checks.test("promise 40, clear", SightTest::clear);
        checks.test("promise 41, lots", SightTest::lots);
        checks.test("promises 42 and 43, image and restore", SightTest::image);
        checks.test("promise 44, count", SightTest::count);
        checks.end();
    }

    private static WeighedInBooks base() {
        return TellingTest.base();
    }

    private static void titles(Checks c) {
        WeighedInBooks x = base();
        int[] order = {3, 1, 2, 7, 6, 0, 4, 5};
        for (int rank = 0; rank < order.length; rank++) {
            c.due("rank of " + order[rank], x.titles(order[rank], 0), rank);
            c.due("behind " + order[rank], x.titles(order[rank], 1), rank < 7 ? order[rank + 1] : -9);
        }
        Checks.told(x, "b009zzzz;b009zzzy;");
        c.due("behind zz", x.titles(5, 1), 9);
        c.due("behind zzzy", x.titles(9, 1), 8);
        c.due("behind zzzz", x.titles(8, 1), -9);
        c.due("rank of zzzz", x.titles(8, 0), 9);
        c.due("no book", x.titles(10, 2), -1);
        c.due("no book", x.titles(-1, 0), -1);
        c.due("another what", x.titles(0, 2), -2);
        c.due("another what", x.titles(0, -1), -2);
    }

    private static void from(Checks c) {
        WeighedInBooks x = base();
        int[][] due = {{0, 3}, {1, 2}, {2, 6}, {3, 0}, {22, 0}, {23, 4}, {25, 4}};
        for (int[] one : due) {
            c.due("from(" + one[0] + ")", x.from(one[0]), one[1]);
        }
        c.due("below", x.from(-1), -4);
        c.due("above", x.from(26), -6);
        WeighedInBooks y = Checks.town("b009yzzz;");
        c.due("none", y.from(25), -9);
        c.due("that begins with it", y.from(24), 0);
        c.due("no books", new WeighedInBooks().from(0), -9);
    }

    private static void shelf(Checks c) {
        WeighedInBooks x = base();
        int[][] due = {{1, 2, 2, 1}, {2, 36, 34, 2}, {1, 16, 7, 4}};
        for (int person = 0; person < 3; person++) {
            for (int what = 0; what < 4; what++) {
                c.due("shelf(" + person + ", " + what + ")", x.shelf(person, what), due[person][what]);
            }
        }
        int[] town = {4, 201, 12, 0};
        for (int what = 0; what < 4; what++) {
            c.due("shelf(9, " + what + ")", x.shelf(9, what), town[what]);
        }
        x.brings(6, 2, 9, 3);
        c.due("most LATIN", x.shelf(9, 3), 6);
        x.lends(1, 2);
        c.due("the holder's", x.shelf(2, 1), 18);
        c.due("nothing", x.shelf(0, 0), 0);
        c.due("nothing", x.shelf(0, 1), 0);
        c.due("nothing", x.shelf(0, 2), 0);
        c.due("nothing", x.shelf(0, 3), -9);
        c.due("nobody", x.shelf(3, 4), -1);
        c.due("nobody", x.shelf(8, 0), -1);
        c.due("nobody", x.shelf(-1, 0), -1);
        c.due("another what", x.shelf(0, 4), -2);
        c.due("another what", x.shelf(9, -1), -2);
    }

    private static void closest(Checks c) {
        WeighedInBooks x = base();
        c.due("4 is nearest to 0", x.sight(0), 12);
        x.eats(2, 25);
        c.due("-11 of 01, -16 of 12", x.sight(0), 1);
        x.eats(2, 20);
        c.due("-11 of 01 and of 12", x.sight(0), 1);
        x.eats(2, 0);
        x.eats(0, 8);
        c.due("1 of 01, -4 of 02, 9 of 12", x.sight(0), 1);
        x.eats(0, 5);
        x.eats(1, 18);
        c.due("-4 of 01, -1 of 02, 1 of 12", x.sight(0), 2);
        c.due("one alone", Checks.town("p00000;").sight(0), -9);
    }

    private static void sight(Checks c) {
        WeighedInBooks x = base();
        c.due("a BIBLE is for nothing", x.sight(1), 0);
        c.due("unread", x.sight(2), 255);
        c.due("lent", x.sight(3), 0);
        x.lends(3, 1);
        x.lends(2, 0);
        x.lends(1, 9);
        c.due("lent", x.sight(3), 8 + 4 + 2);
        x.lends(0, 2);
        c.due("lent", x.sight(3), 8 + 4 + 2 + 1);
        x.reads(2, 0);
        x.reads(1, 5);
        c.due("unread", x.sight(2), 255 - 1 - 32);
        x.buys(0, 7);
        c.due("1 is enough", x.sight(1), 0);
        x.buys(0, 3);
        c.due("5 is not", x.sight(1), 1);
        x.lends(6, 2);
        c.due("the town's, lent or not", x.sight(1), 1);
        x.buys(0, 6);
        c.due("6 now", x.sight(1), 1);
        x.eats(0, 0);
        x.buys(1, 0);
        c.due("the town has none", x.sight(1), 0);
        c.due("another what", x.sight(4), -2);
        c.due("another what", x.sight(-1), -2);
        c.due("both are poor", Checks.town("p00004;p00000;b059a;").sight(1), 2);
        c.due("without people", Checks.town("b009a;").sight(1), 0);
    }

    private static void shareIs(Checks c, WeighedInBooks x, int person, long above, long below) {
        c.due("share(" + person + ", 0)", x.share(person, 0), above);
        c.due("share(" + person + ", 1)", x.share(person, 1), below);
    }

    private static void share(Checks c) {
        WeighedInBooks x = base();
        long[][] due = {{0, 1}, {1, 8}, {1, 4}, {3, 8}, {1, 2}, {5, 8}, {3, 4}, {7, 8}, {1, 1}};
        for (int read = 0; read <= 8; read++) {
            shareIs(c, x, 1, due[read][0], due[read][1]);
            x.reads(1, read);
        }
        shareIs(c, x, 0, 0, 1);
        shareIs(c, Checks.town("p00000;"), 0, 0, 1);
        c.due("nobody", x.share(3, 2), LONGS + 1);
        c.due("nobody", x.share(-1, 0), LONGS + 1);
        c.due("another part", x.share(0, 2), LONGS + 2);
        c.due("another part", x.share(0, -1), LONGS + 2);
    }

    private static void byHeart(Checks c) {
        WeighedInBooks x = base();
        x.reads(0, 1);
        x.reads(0, 7);
        x.reads(0, 4);
        x.reads(2, 7);
        x.reads(2, 1);
        x.reads(2, 0);
        c.due("byHeart(0, 2)", x.byHeart(0, 2), 2 + 128);
        c.due("byHeart(2, 0)", x.byHeart(2, 0), 2 + 128);
        c.due("byHeart(0, 1)", x.byHeart(0, 1), 0);
        c.due("one twice", x.byHeart(0, 0), -1);
        c.due("nobody", x.byHeart(0, 3), -1);
        c.due("nobody", x.byHeart(9, 0), -1);
    }

    private static void kinds(Checks c) {
        WeighedInBooks x = base();
        x.brings(6, 2, 9, 3);
        for (int kind = 0; kind < 8; kind++) {
            c.due("kinds(" + kind + ")", x.kinds(kind), kind == 6 ? 2 : 1);
        }
        c.due("below", x.kinds(-1), -2);
        c.due("above", x.kinds(8), -2);
        c.due("refused -2", x.count(12), 2);
    }

    private static void row(Checks c) {
        WeighedInBooks x = new WeighedInBooks();
        c.due("below", x.row(-100), -4);
        c.due("above", x.row(100), -6);
        c.due("row(-99)", x.row(-99), 1);
        c.due("row(99)", x.row(99), 2);
        for (int i = 3; i <= 12; i++) {
            c.due("row(0)", x.row(0), i);
        }
        c.due("a thirteenth", x.row(0), -6);
        c.due("a thirteenth below", x.row(-100), -4);
        c.due("in the row", x.count(6), 12);
    }

    private static void judged(Checks c, WeighedInBooks x, int due, int... row) {
        for (int v : row) {
            x.row(v);
        }
        c.due("judge() of " + row.length, x.judge(), due);
        c.due("the row has none", x.count(6), 0);
    }

    private static void judge(Checks c) {
        WeighedInBooks x = base();
        judged(c, x, -9);
        judged(c, x, -9, 20);
        judged(c, x, -9, 20, 10, 5);
        judged(c, x, 3, 20, 10, 5, 0);
        judged(c, x, 0, 10, 10, 4);
        judged(c, x, 1, 20, -10, 4, 4);
        judged(c, x, 2, 20, 10, 4, 1, 1, 1, 1, 1, 1, 1, 1, 1);
        judged(c, new WeighedInBooks(), 0, 0);
    }

    private static void clear(Checks c) {
        WeighedInBooks x = base();
        c.due("none", x.clear(), 0);
        x.row(1);
        x.row(2);
        c.due("two", x.clear(), 2);
        c.due("in the row", x.count(6), 0);
        c.due("one more", x.row(20), 1);
        c.due("what was cleared is no more", x.judge(), -9);
    }

    private static void lots(Checks c) {
        WeighedInBooks x = Checks.town("p03900;p03900;b051n;");
        // The book goes to 0 by an even draw, who gives it to 1, and to 1 by an odd one.
        c.due("seed 0, 12345 is too small to tell", x.lots(1, 0, 0), 2);
        c.due("seed 1, 16838", x.lots(1, 1, 0), 2);
        c.due("seed 2, below 0 without its sign 908", x.lots(1, 2, 0), 2);
        c.due("seed 3, 17747", x.lots(1, 3, 0), 1);
        c.due("seed 3, both come down", x.lots(1, 3, 1), 1);
        int z = -5;
        int read = 0;
        for (int i = 0; i < 20; i++) {
            z = z * 1103515245 + 12345;
            read += ((z & 0x7fffffff) / 65536) % 2 == 0 ? 2 : 1;
            c.due("lots(" + (i + 1) + ", -5, 0)", x.lots(i + 1, -5, 0), read);
        }
        c.due("in mind", x.count(2) + x.book(0, 4), 0);
        x.reads(1, 0);
        x.reads(0, 0);
        c.due("nothing more to read", x.lots(20, 77, 0), 0);
        c.due("twos of each spring", x.lots(20, 77, 1), 20);
        c.due("below", x.lots(0, 5, 2), -4);
        c.due("above", x.lots(21, 5, 2), -6);
        c.due("another what", x.lots(20, 5, 2), -2);
        c.due("another what", x.lots(1, 5, -1), -2);
        c.due("without people", Checks.town("b009a;").lots(20, 1, 0), 0);
        WeighedInBooks y = Checks.town("p00900;b009a;b009b;b009c;b009d;b009e;b009f;b009g;b009h;b009i;b009j;");
        c.due("8 of 10 in 8 weeks", y.lots(3, 9, 0), 24);
        c.due("one alone", y.lots(3, 9, 1), 0);
    }

    private static void image(Checks c) {
        WeighedInBooks x = base();
        c.due("none", x.restore(), -3);
        x.weeks(3);
        x.step(0, 7);
        x.row(5);
        c.due("image()", x.image(), 3);
        c.due("what can be taken back stays", x.count(7), 2);
        x.weeks(2);
        x.clearLaw();
        x.comes(1, 1, 1);
        x.brings(0, 0, 9, 3);
        x.buys(0, 0);
        x.reads(0, 3);
        x.lends(1, 2);
        x.eats(0, 77);
        x.row(6);
        x.feed('p');
        x.eats(9, 9);
        c.due("restore()", x.restore(), 3);
        c.due("week", x.count(2), 3);
        c.due("people", x.count(0), 3);
        c.due("books", x.count(1), 8);
        c.due("steps", x.count(3), 1);
        c.due("by the law", x.pan(0, 1, 2), 15);
        c.due("owner", x.book(0, 2), 9);
        c.due("holder", x.book(1, 3), 0);
        c.due("readers of 3", x.book(3, 4), 0);
        c.due("readers of 1", x.book(1, 4), 1);
        c.due("weight", x.person(0, 0), 20);
        c.due("purse", x.person(0, 2), 50);
        c.due("the row stays", x.count(6), 2);
        c.due("the letters stay", x.count(5), 1);
        c.due("refused ones stay", x.count(11), 1);
        c.due("nothing to take back", x.count(7), 0);
        x.weeks(5);
        c.due("it stays", x.restore(), 3);
        x.weeks(1);
        c.due("another image", x.image(), 4);
        x.weeks(1);
        x.back();
        x.back();
        c.due("back is behind the image", x.count(2), 3);
        c.due("restore()", x.restore(), 4);
    }

    private static void count(Checks c) {
        WeighedInBooks x = base();
        int[] due = {3, 8, 0, 0, 35, 0, 0, 0, 1, -9, -9, 0, 0, 0, 0, 0, 0, -9};
        for (int what = 0; what < due.length; what++) {
            c.due("count(" + what + ")", x.count(what), due[what]);
        }
        x.weeks(1);
        x.step(0, 99);
        x.feed('a');
        x.row(0);
        int[] then = {3, 8, 1, 1, 35, 1, 1, 2, 3, -9, -9, 0, 0, 0, 0, 0, 0, -9};
        for (int what = 0; what < then.length; what++) {
            c.due("count(" + what + ")", x.count(what), then[what]);
        }
        x.eats(9, 0);
        x.sight(9);
        x.sight(9);
        x.restore();
        x.feed(-1);
        x.feed(-1);
        x.feed(-1);
        x.feed(256);
        int[] refused = {1, 2, 1, 3, 0, 1};
        for (int i = 0; i < refused.length; i++) {
            c.due("count(" + (11 + i) + ")", x.count(11 + i), refused[i]);
        }
        c.due("count(-1)", x.count(-1), -9);
        c.due("count(2147483647)", x.count(2147483647), -9);
        c.due("count(-2147483648)", x.count(-2147483648), -9);
        c.due("no refusal", x.count(12), 2);
    }
}
