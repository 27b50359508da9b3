import java.util.Random;

/** Every call of the face by its number, on the class or on the model, and arguments by lot. */
final class Calls {
    static final String[] NAMES = {"feed", "town", "person", "book", "title", "comes", "brings", "eats", "reads",
        "lends", "buys", "step", "clearLaw", "weeks", "back", "over", "pan", "overThen", "then", "when", "first",
        "buy", "borrow", "taught", "couples", "heaviest", "whatKind", "two", "damp", "titles", "from", "shelf",
        "sight", "share", "byHeart", "kinds", "row", "judge", "clear", "lots", "image", "restore", "count"};

    private Calls() {
    }

    static long answer(WeighedInBooks x, int which, int[] a) {
        switch (NAMES[which]) {
            case "feed": return x.feed(a[0]);
            case "town": return x.town();
            case "person": return x.person(a[0], a[1]);
            case "book": return x.book(a[0], a[1]);
            case "title": return x.title(a[0], a[1]);
            case "comes": return x.comes(a[0], a[1], a[2]);
            case "brings": return x.brings(a[0], a[1], a[2], a[3]);
            case "eats": return x.eats(a[0], a[1]);
            case "reads": return x.reads(a[0], a[1]);
            case "lends": return x.lends(a[0], a[1]);
            case "buys": return x.buys(a[0], a[1]);
            case "step": return x.step(a[0], a[1]);
            case "clearLaw": return x.clearLaw();
            case "weeks": return x.weeks(a[0]);
            case "back": return x.back();
            case "over": return x.over(a[0], a[1]);
            case "pan": return x.pan(a[0], a[1], a[2]);
            case "overThen": return x.overThen(a[0], a[1], a[2]);
            case "then": return x.then(a[0], a[1], a[2]);
            case "when": return x.when(a[0], a[1]);
            case "first": return x.first();
            case "buy": return x.buy(a[0], a[1], a[2]);
            default: return answerMore(x, which, a);
        }
    }

    private static long answerMore(WeighedInBooks x, int which, int[] a) {
        switch (NAMES[which]) {
            case "borrow": return x.borrow(a[0], a[1], a[2]);
            case "taught": return x.taught(a[0], a[1], a[2], a[3]);
            case "couples": return x.couples(a[0]);
            case "heaviest": return x.heaviest(a[0], a[1], a[2]);
            case "whatKind": return x.whatKind(a[0], a[1], a[2], a[3]);
            case "two": return x.two(a[0], a[1], a[2]);
            case "damp": return x.damp(a[0], a[1], a[2], a[3], a[4]);
            case "titles": return x.titles(a[0], a[1]);
            case "from": return x.from(a[0]);
            case "shelf": return x.shelf(a[0], a[1]);
            case "sight": return x.sight(a[0]);
            case "share": return x.share(a[0], a[1]);
            case "byHeart": return x.byHeart(a[0], a[1]);
            case "kinds": return x.kinds(a[0]);
            case "row": return x.row(a[0]);
            case "judge": return x.judge();
            case "clear": return x.clear();
            case "lots": return x.lots(a[0], a[1], a[2]);
            case "image": return x.image();
            case "restore": return x.restore();
            default: return x.count(a[0]);
        }
    }

    static long answer(Model m, int which, int[] a) {
        switch (NAMES[which]) {
            case "feed": return m.feed(a[0]);
            case "town": return m.town();
            case "person": return m.person(a[0], a[1]);
            case "book": return m.book(a[0], a[1]);
            case "title": return m.title(a[0], a[1]);
            case "comes": return m.comes(a[0], a[1], a[2]);
            case "brings": return m.brings(a[0], a[1], a[2], a[3]);
            case "eats": return m.eats(a[0], a[1]);
            case "reads": return m.reads(a[0], a[1]);
            case "lends": return m.lends(a[0], a[1]);
            case "buys": return m.buys(a[0], a[1]);
            case "step": return m.step(a[0], a[1]);
            case "clearLaw": return m.clearLaw();
            case "weeks": return m.weeks(a[0]);
            case "back": return m.back();
            case "over": return m.over(a[0], a[1]);
            case "pan": return m.pan(a[0], a[1], a[2]);
            case "overThen": return m.overThen(a[0], a[1], a[2]);
            case "then": return m.then(a[0], a[1], a[2]);
            case "when": return m.when(a[0], a[1]);
            case "first": return m.first();
            case "buy": return m.buy(a[0], a[1], a[2]);
            default: return answerMore(m, which, a);
        }
    }

    private static long answerMore(Model m, int which, int[] a) {
        switch (NAMES[which]) {
            case "borrow": return m.borrow(a[0], a[1], a[2]);
            case "taught": return m.taught(a[0], a[1], a[2], a[3]);
            case "couples": return m.couples(a[0]);
            case "heaviest": return m.heaviest(a[0], a[1], a[2]);
            case "whatKind": return m.whatKind(a[0], a[1], a[2], a[3]);
            case "two": return m.two(a[0], a[1], a[2]);
            case "damp": return m.damp(a[0], a[1], a[2], a[3], a[4]);
            case "titles": return m.titles(a[0], a[1]);
            case "from": return m.from(a[0]);
            case "shelf": return m.shelf(a[0], a[1]);
            case "sight": return m.sight(a[0]);
            case "share": return m.share(a[0], a[1]);
            case "byHeart": return m.byHeart(a[0], a[1]);
            case "kinds": return m.kinds(a[0]);
            case "row": return m.row(a[0]);
            case "judge": return m.judge();
            case "clear": return m.clear();
            case "lots": return m.lots(a[0], a[1], a[2]);
            case "image": return m.image();
            case "restore": return m.restore();
            default: return m.count(a[0]);
        }
    }

    /** Mostly from 0 to the greatest, now and then just outside, now and then far. */
    private static int upTo(Random lot, int greatest) {
        switch (lot.nextInt(40)) {
            case 0: return -1;
            case 1: return greatest + 1;
            case 2: return lot.nextInt();
            case 3: return lot.nextBoolean() ? Integer.MIN_VALUE : Integer.MAX_VALUE;
            default: return lot.nextInt(greatest + 1);
        }
    }

    private static int person(Random lot, int people) {
        return lot.nextInt(12) == 0 ? upTo(lot, 9) : upTo(lot, Math.max(0, people - 1));
    }

    private static int keeper(Random lot, int people) {
        return lot.nextInt(4) == 0 ? 9 : person(lot, people);
    }

    private static int book(Random lot, int books) {
        return upTo(lot, Math.max(0, books - 1));
    }

    static int[] arguments(Random lot, int which, int people, int books) {
        int one = person(lot, people);
        int other = person(lot, people);
        if (one == other && people > 1 && lot.nextInt(8) > 0) {
            other = (one + 1 & 0x7fffffff) % people;
        }
        int book = book(lot, books);
        int little = upTo(lot, lot.nextBoolean() ? 5 : 60);
        switch (NAMES[which]) {
            case "feed": return new int[] {upTo(lot, 255)};
            case "person": return new int[] {one, upTo(lot, 5)};
            case "book": return new int[] {book, upTo(lot, 7)};
            case "title": return new int[] {book, upTo(lot, 4)};
            case "comes": return new int[] {upTo(lot, lot.nextBoolean() ? 12 : 99), upTo(lot, 9), upTo(lot, 99)};
            case "brings": return new int[] {upTo(lot, 7), upTo(lot, 9), keeper(lot, people), upTo(lot, 25)};
            case "eats": return new int[] {one, upTo(lot, lot.nextBoolean() ? 12 : 99)};
            case "reads":
            case "buys": return new int[] {one, book};
            case "lends": return new int[] {book, keeper(lot, people)};
            case "step": return new int[] {upTo(lot, 7), upTo(lot, lot.nextBoolean() ? 12 : 99)};
            case "weeks": return new int[] {little};
            case "pan": return new int[] {one, other, book};
            case "overThen": return new int[] {one, other, little};
            case "then": {
                int what = upTo(lot, 2);
                return new int[] {little, what, what == 0 ? one : book};
            }
            case "buy":
            case "borrow": return new int[] {one, other, upTo(lot, 1)};
            case "taught": return new int[] {person(lot, people), one, other, little};
            case "couples": return new int[] {lot.nextInt(3) == 0 ? -1 : one};
            case "heaviest": return new int[] {one, other, upTo(lot, 6)};
            case "whatKind": return new int[] {one, other, book, upTo(lot, 1)};
            case "two": return new int[] {one, other, lot.nextInt(4) == 0 ? little : upTo(lot, 30)};
            case "damp": return new int[] {one, other, upTo(lot, 7), 2 + upTo(lot, 18), upTo(lot, 1)};
            case "titles": return new int[] {book, upTo(lot, 1)};
            case "from": return new int[] {upTo(lot, 25)};
            case "shelf": return new int[] {keeper(lot, people), upTo(lot, 3)};
            case "sight": return new int[] {upTo(lot, 3)};
            case "share": return new int[] {one, upTo(lot, 1)};
            case "kinds": return new int[] {upTo(lot, 7)};
            case "row": return new int[] {lot.nextInt(10) - 5 + (lot.nextInt(8) == 0 ? lot.nextInt(220) - 110 : 0)};
            case "lots": return new int[] {1 + upTo(lot, 19), lot.nextInt(), upTo(lot, 1)};
            case "count": return new int[] {upTo(lot, 17)};
            default: return new int[] {one, other};
        }
    }

    /** A text that is mostly a TOWN, with short titles so that they are met again. */
    static String text(Random lot, int people) {
        StringBuilder text = new StringBuilder();
        int statements = lot.nextInt(6);
        for (int i = 0; i <= statements; i++) {
            text.append(statement(lot, people));
        }
        if (lot.nextInt(5) == 0 && text.length() > 0) {
            int place = lot.nextInt(text.length());
            switch (lot.nextInt(3)) {
                case 0: text.setLength(place); break;
                case 1: text.deleteCharAt(place); break;
                default: text.setCharAt(place, "pbrhlwaz09;x{`/:A".charAt(lot.nextInt(17)));
            }
        }
        return text.toString();
    }

    private static String title(Random lot) {
        StringBuilder title = new StringBuilder();
        int length = 1 + lot.nextInt(lot.nextInt(8) == 0 ? 5 : 2);
        for (int i = 0; i < length; i++) {
            title.append("abzw".charAt(lot.nextInt(4)));
        }
        return title.toString();
    }

    private static String statement(Random lot, int people) {
        int who = lot.nextInt(8) == 0 ? lot.nextInt(10) : lot.nextInt(Math.max(1, people));
        int keeper = lot.nextInt(3) == 0 ? 9 : who;
        switch (lot.nextInt(12)) {
            case 0:
            case 1: return String.format("p%02d%d%02d;", lot.nextInt(lot.nextInt(3) == 0 ? 100 : 9), lot.nextInt(10),
                lot.nextInt(100));
            case 2:
            case 3:
            case 4:
            case 5: return "b" + lot.nextInt(lot.nextInt(20) == 0 ? 10 : 8) + lot.nextInt(10) + keeper + title(lot) + ";";
            case 6:
            case 7: return "r" + who + title(lot) + ";";
            case 8:
            case 9: return "h" + keeper + title(lot) + ";";
            case 10: {
                StringBuilder law = new StringBuilder("l");
                for (int i = lot.nextInt(lot.nextInt(8) == 0 ? 8 : 4); i > 0; i--) {
                    int step = lot.nextInt(8);
                    law.append("alctduho".charAt(step)).append(step < 4 ? String.format("%02d", lot.nextInt(25)) : "");
                }
                return law + ";";
            }
            default: return String.format("w%02d;", lot.nextInt(lot.nextInt(6) == 0 ? 100 : 4));
        }
    }
}
