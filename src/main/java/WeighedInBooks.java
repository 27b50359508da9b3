/**
 * A town where two are weighed against the books that the two of them hold, by a law of steps that the
 * town has told. What each call promises stands in ../shared/DOC.md; words in capitals there are the
 * words of the comments here.
 */
public final class WeighedInBooks {
    private static final int NOBODY = -1;
    private static final int OTHER = -2;
    private static final int STATE = -3;
    private static final int BELOW = -4;
    private static final int ROOM = -6;
    private static final int NONE = -9;
    private static final int REFUSED_OVER = 1000000000;
    private static final long REFUSED_LONG = 4000000000000000000L;

    private static final int MOST_PEOPLE = 6;
    private static final int MOST_BOOKS = 10;
    private static final int MOST_STEPS = 6;
    private static final int MOST_NUMBER = 99;
    private static final int MOST_LETTERS = 96;
    private static final int MOST_TOLD = 12;
    private static final int MOST_BACK = 8;
    private static final int MOST_HEAVY = 99;
    private static final int MOST_FIGURE = 9;
    private static final int MOST_AHEAD = 60;
    private static final int LAST_WEEK = 999;
    private static final int LAST_LETTER = 25;
    private static final int KINDS = 8;
    private static final int STEPS = 8;
    /** The steps ahead of this one carry a number, the others none. */
    private static final int STEPS_WITH_NUMBER = 4;
    private static final int TOWN = 9;

    private final Town now = new Town();
    private final Past past = new Past();
    private final Town imaged = new Town();
    private boolean hasImage;
    private final Statements told = new Statements();
    private final Foresight foresight = new Foresight();
    private final Bargain bargain = new Bargain();
    private final Couples matched = new Couples();
    private final int[] ordered = new int[MOST_BOOKS];
    private final int[] toldRow = new int[MOST_TOLD];
    private int inRow;
    private final int[] refused = new int[7];

    public WeighedInBooks() {
    }

    // ---- the town, as it is told

    public int feed(int letter) {
        if (letter < 0) {
            return refuse(BELOW);
        }
        if (letter > 255 || told.letters >= MOST_LETTERS) {
            return refuse(ROOM);
        }
        return told.addLetter(letter);
    }

    public int town() {
        int answer = told.tellTo(now);
        told.letters = 0;
        if (answer >= 0) {
            past.forget();
        }
        return answer;
    }

    public int comes(int weight, int appetite, int purse) {
        if (weight < 0 || appetite < 0 || purse < 0) {
            return refuse(BELOW);
        }
        if (weight > MOST_HEAVY || appetite > 9 || purse > 99 || now.people >= MOST_PEOPLE) {
            return refuse(ROOM);
        }
        past.forget();
        return now.addPerson(weight, appetite, purse);
    }

    public int brings(int kind, int figure, int owner, int letter) {
        if (kind < 0 || kind >= KINDS) {
            return refuse(OTHER);
        }
        if (figure < 0 || letter < 0) {
            return refuse(BELOW);
        }
        if (figure > MOST_FIGURE || letter > LAST_LETTER || now.books >= MOST_BOOKS) {
            return refuse(ROOM);
        }
        if (!now.hasKeeper(owner)) {
            return refuse(NOBODY);
        }
        int title = Titles.ofLetter(letter);
        if (now.bookWithTitle(title) >= 0) {
            return refuse(STATE);
        }
        past.forget();
        return now.addBook(kind, figure, owner, title);
    }

    // ---- people and books, looked at

    public int person(int person, int what) {
        if (!now.hasPerson(person)) {
            return refuse(NOBODY);
        }
        switch (what) {
            case 0: return now.weight[person];
            case 1: return now.appetite[person];
            case 2: return now.purse[person];
            case 3: return now.readingsOf(person);
            case 4: return now.booksWith(now.holder, person);
            case 5: return now.booksWith(now.owner, person);
            default: return refuse(OTHER);
        }
    }

    public int book(int book, int what) {
        if (!now.hasBook(book)) {
            return refuse(NOBODY);
        }
        switch (what) {
            case 0: return now.kind[book];
            case 1: return now.figure[book];
            case 2: return now.owner[book];
            case 3: return now.holder[book];
            case 4: return now.readers[book];
            case 5: return now.weighs(book);
            case 6: return now.priceOf(book);
            case 7: return Titles.lengthOf(now.title[book]);
            default: return refuse(OTHER);
        }
    }

    public int title(int book, int place) {
        if (!now.hasBook(book)) {
            return refuse(NOBODY);
        }
        if (place < 0) {
            return refuse(BELOW);
        }
        if (place >= Titles.lengthOf(now.title[book])) {
            return NONE;
        }
        return Titles.letterAt(now.title[book], place);
    }

    // ---- what changes, and can be taken back

    public int eats(int person, int weight) {
        if (!now.hasPerson(person)) {
            return refuse(NOBODY);
        }
        if (weight < 0) {
            return refuse(BELOW);
        }
        if (weight > MOST_HEAVY) {
            return refuse(ROOM);
        }
        past.keep(now);
        int old = now.weight[person];
        now.weight[person] = weight;
        return old;
    }

    public int reads(int person, int book) {
        if (!now.hasPerson(person) || !now.hasBook(book)) {
            return refuse(NOBODY);
        }
        past.keep(now);
        int fresh = 1 - now.hasRead(person, book);
        now.readers[book] |= 1 << person;
        return fresh;
    }

    public int lends(int book, int holder) {
        if (!now.hasBook(book) || !now.hasKeeper(holder)) {
            return refuse(NOBODY);
        }
        past.keep(now);
        int old = now.holder[book];
        now.holder[book] = holder;
        return old;
    }

    public int buys(int person, int book) {
        if (!now.hasPerson(person) || !now.hasBook(book)) {
            return refuse(NOBODY);
        }
        int price = now.priceOf(book);
        if (now.owner[book] != TOWN || now.purse[person] < price) {
            return refuse(STATE);
        }
        past.keep(now);
        now.owner[book] = person;
        now.holder[book] = person;
        now.purse[person] -= price;
        return now.purse[person];
    }

    public int step(int step, int n) {
        if (step < 0 || step >= STEPS) {
            return refuse(OTHER);
        }
        // The range of n is told of the call: it holds for the steps, too, to which n does nothing.
        if (n < 0) {
            return refuse(BELOW);
        }
        if (n > MOST_NUMBER || now.steps >= MOST_STEPS) {
            return refuse(ROOM);
        }
        past.keep(now);
        now.addStep(step, n);
        return now.steps;
    }

    public int clearLaw() {
        past.keep(now);
        int had = now.steps;
        now.steps = 0;
        return had;
    }

    public int weeks(int n) {
        if (n < 1) {
            return refuse(BELOW);
        }
        if (n > MOST_AHEAD || now.week + n > LAST_WEEK) {
            return refuse(ROOM);
        }
        past.keep(now);
        now.weeksPass(n);
        return now.week;
    }

    public int back() {
        if (past.many == 0) {
            return refuse(STATE);
        }
        past.giveBack(now);
        return past.many;
    }

    // ---- two on the pan, now

    public int over(int one, int other) {
        if (!areTwo(one, other)) {
            return REFUSED_OVER - refuse(NOBODY);
        }
        return now.overOf(one, other);
    }

    public int pan(int one, int other, int book) {
        if (!areTwo(one, other) || !now.hasBook(book)) {
            return refuse(NOBODY);
        }
        return now.comesTo(one, other, book);
    }

    public int buy(int one, int other, int what) {
        if (!areTwo(one, other)) {
            return refuse(NOBODY);
        }
        if (isNeither(what)) {
            return refuse(OTHER);
        }
        bargain.seek(now, one, other);
        return what == 0 ? bargain.set : bargain.prices;
    }

    public int couples(int person) {
        if (person != -1 && !now.hasPerson(person)) {
            return refuse(NOBODY);
        }
        matched.choose(now);
        return person == -1 ? matched.many : matched.partner[person];
    }

    public int heaviest(int one, int other, int i) {
        if (!areTwo(one, other)) {
            return refuse(NOBODY);
        }
        if (i < 0) {
            return refuse(BELOW);
        }
        int many = orderPan(one, other);
        return i < many ? ordered[i] : NONE;
    }

    // ---- in mind

    public int overThen(int one, int other, int n) {
        if (!areTwo(one, other)) {
            return REFUSED_OVER - refuse(NOBODY);
        }
        if (n < 0) {
            return REFUSED_OVER - refuse(BELOW);
        }
        if (n > MOST_AHEAD) {
            return REFUSED_OVER - refuse(ROOM);
        }
        return foresight.after(now, n).overOf(one, other);
    }

    public int then(int n, int what, int of) {
        if (n < 0) {
            return refuse(BELOW);
        }
        if (n > MOST_AHEAD) {
            return refuse(ROOM);
        }
        if (what < 0 || what > 2) {
            return refuse(OTHER);
        }
        if (what == 0 ? !now.hasPerson(of) : !now.hasBook(of)) {
            return refuse(NOBODY);
        }
        Town later = foresight.after(now, n);
        switch (what) {
            case 0: return later.weight[of];
            case 1: return Integer.bitCount(later.readers[of]);
            default: return later.holder[of];
        }
    }

    public int when(int one, int other) {
        if (!areTwo(one, other)) {
            return refuse(NOBODY);
        }
        return foresight.whenDown(now, one, other);
    }

    public int first() {
        return foresight.firstDown(now);
    }

    public int borrow(int one, int other, int what) {
        if (!areTwo(one, other)) {
            return refuse(NOBODY);
        }
        if (isNeither(what)) {
            return refuse(OTHER);
        }
        foresight.seekLoan(now, one, other);
        return what == 0 ? foresight.loan : foresight.loanWeeks;
    }

    public int taught(int person, int one, int other, int n) {
        if (!now.hasPerson(person) || !areTwo(one, other)) {
            return refuse(NOBODY);
        }
        if (n < 0) {
            return refuse(BELOW);
        }
        if (n > MOST_AHEAD) {
            return refuse(ROOM);
        }
        return foresight.bestTaught(now, person, one, other, n);
    }

    public int whatKind(int one, int other, int book, int what) {
        if (!areTwo(one, other) || !now.hasBook(book)) {
            return refuse(NOBODY);
        }
        if (isNeither(what)) {
            return refuse(OTHER);
        }
        foresight.think(now);
        return foresight.bitsBy(toldRow, inRow, one, other, book, what == 0);
    }

    public int two(int one, int other, int n) {
        if (!areTwo(one, other)) {
            return refuse(NOBODY);
        }
        if (n < 1) {
            return refuse(BELOW);
        }
        if (n > 30) {
            return refuse(ROOM);
        }
        return foresight.steadyPair(now, one, other, n);
    }

    public long damp(int one, int other, int n, int t, int part) {
        if (!areTwo(one, other)) {
            return REFUSED_LONG - refuse(NOBODY);
        }
        if (n < 0 || t < 2) {
            return REFUSED_LONG - refuse(BELOW);
        }
        if (n > 7 || t > 20) {
            return REFUSED_LONG - refuse(ROOM);
        }
        if (isNeither(part)) {
            return REFUSED_LONG - refuse(OTHER);
        }
        return Fractions.part(foresight.dampCases(now, one, other, n, t), Fractions.power(t, n), part);
    }

    public int lots(int n, int z, int what) {
        if (n < 1) {
            return refuse(BELOW);
        }
        if (n > 20) {
            return refuse(ROOM);
        }
        if (isNeither(what)) {
            return refuse(OTHER);
        }
        foresight.drawSprings(now, n, z);
        return what == 0 ? foresight.springReadings : foresight.springTwos;
    }

    // ---- titles, shelves, sights

    public int titles(int book, int what) {
        if (!now.hasBook(book)) {
            return refuse(NOBODY);
        }
        switch (what) {
            case 0: return now.rankOf(book);
            case 1: return now.firstTitleFrom(now.title[book] + 1);
            default: return refuse(OTHER);
        }
    }

    public int from(int letter) {
        if (letter < 0) {
            return refuse(BELOW);
        }
        if (letter > LAST_LETTER) {
            return refuse(ROOM);
        }
        return now.firstTitleFrom(Titles.ofLetter(letter));
    }

    public int shelf(int holder, int what) {
        if (!now.hasKeeper(holder)) {
            return refuse(NOBODY);
        }
        switch (what) {
            case 0: return now.booksWith(now.holder, holder);
            case 1: return now.kindsHeldBy(holder);
            case 2: return now.pricesHeldBy(holder);
            case 3: return now.mostHeldKind(holder);
            default: return refuse(OTHER);
        }
    }

    public int sight(int what) {
        switch (what) {
            case 0: return now.closestTwo();
            case 1: return now.poorPeople();
            case 2: return now.unreadBooks();
            case 3: return now.lentBooks();
            default: return refuse(OTHER);
        }
    }

    public long share(int person, int part) {
        if (!now.hasPerson(person)) {
            return REFUSED_LONG - refuse(NOBODY);
        }
        if (isNeither(part)) {
            return REFUSED_LONG - refuse(OTHER);
        }
        return Fractions.part(now.readingsOf(person), now.books, part);
    }

    public int byHeart(int one, int other) {
        if (!areTwo(one, other)) {
            return refuse(NOBODY);
        }
        return now.booksReadBy(one) & now.booksReadBy(other);
    }

    public int kinds(int kind) {
        if (kind < 0 || kind >= KINDS) {
            return refuse(OTHER);
        }
        return now.booksWith(now.kind, kind);
    }

    // ---- the row

    public int row(int v) {
        if (v < -99) {
            return refuse(BELOW);
        }
        if (v > 99 || inRow >= MOST_TOLD) {
            return refuse(ROOM);
        }
        toldRow[inRow] = v;
        inRow++;
        return inRow;
    }

    public int judge() {
        int wrong = NONE;
        for (int i = inRow - 1; i >= 0; i--) {
            if (!now.hasPerson(i) || now.weight[i] != toldRow[i]) {
                wrong = i;
            }
        }
        inRow = 0;
        return wrong;
    }

    public int clear() {
        int had = inRow;
        inRow = 0;
        return had;
    }

    // ---- the image, and how many there are

    public int image() {
        imaged.copyFrom(now);
        hasImage = true;
        return now.week;
    }

    public int restore() {
        if (!hasImage) {
            return refuse(STATE);
        }
        now.copyFrom(imaged);
        past.forget();
        return now.week;
    }

    public int count(int what) {
        switch (what) {
            case 0: return now.people;
            case 1: return now.books;
            case 2: return now.week;
            case 3: return now.steps;
            case 4: return now.weightOfAll();
            case 5: return told.letters;
            case 6: return inRow;
            case 7: return past.many;
            case 8: return now.twosDown();
            default: return what >= 11 && what <= 16 ? refused[what - 10] : NONE;
        }
    }

    // ---- what the calls share

    private int refuse(int refusal) {
        refused[-refusal]++;
        return refusal;
    }

    /** Of the two parts, or questions, that a call has. */
    private boolean isNeither(int part) {
        return part != 0 && part != 1;
    }

    private boolean areTwo(int one, int other) {
        return now.hasPerson(one) && now.hasPerson(other) && one != other;
    }

    /** Puts the books on the pan of two in the order of HEAVIEST, and answers how many they are. */
    private int orderPan(int one, int other) {
        int many = 0;
        for (int book = 0; book < now.books; book++) {
            if (now.isOnPan(one, other, book)) {
                int place = many;
                while (place > 0 && isHeavier(one, other, book, ordered[place - 1])) {
                    ordered[place] = ordered[place - 1];
                    place--;
                }
                ordered[place] = book;
                many++;
            }
        }
        return many;
    }

    private boolean isHeavier(int one, int other, int book, int than) {
        int heavy = now.comesTo(one, other, book);
        int thanHeavy = now.comesTo(one, other, than);
        return heavy > thanHeavy || heavy == thanHeavy && now.title[book] < now.title[than];
    }

    // ---- the classes inside

    /**
     * A title is one number, four digits to the base of 27, its first letter the highest digit, 0 where it
     * has ended: so titles stand in their order as their numbers do.
     */
    private static final class Titles {
        static final int BASE = 27;
        static final int LETTERS = 4;
        static final int NO_TITLE = -1;

        static int ofLetter(int letter) {
            return longer(0, 0, letter);
        }

        static int longer(int title, int length, int letter) {
            int digit = letter + 1;
            for (int place = length + 1; place < LETTERS; place++) {
                digit = digit * BASE;
            }
            return title + digit;
        }

        static int letterAt(int title, int place) {
            int rest = title;
            for (int i = place + 1; i < LETTERS; i++) {
                rest = rest / BASE;
            }
            return rest % BASE - 1;
        }

        static int lengthOf(int title) {
            int length = LETTERS;
            int rest = title;
            while (length > 0 && rest % BASE == 0) {
                rest = rest / BASE;
                length--;
            }
            return length;
        }
    }

    /** Fractions of whole numbers from 0, in lowest terms. */
    private static final class Fractions {
        static long part(long above, long below, int part) {
            if (above == 0) {
                return part;
            }
            long shared = sharedDivisor(above, below);
            if (shared == 0) {
                return part;
            }
            return part == 0 ? above / shared : below / shared;
        }

        static long sharedDivisor(long one, long other) {
            long greater = one;
            long lesser = other;
            // Two rounds at the least halve the greater: 63 bits are used up within 126.
            for (int round = 0; round < 130 && lesser != 0; round++) {
                long rest = greater % lesser;
                greater = lesser;
                lesser = rest;
            }
            return greater;
        }

        static long power(long base, int exponent) {
            long product = 1;
            for (int i = 0; i < exponent; i++) {
                product = product * base;
            }
            return product;
        }
    }

    /** All that can be put into an image or taken back: people, books, the week, the law. */
    private static final class Town {
        int people;
        final int[] weight = new int[MOST_PEOPLE];
        final int[] appetite = new int[MOST_PEOPLE];
        final int[] purse = new int[MOST_PEOPLE];
        int books;
        final int[] kind = new int[MOST_BOOKS];
        final int[] figure = new int[MOST_BOOKS];
        final int[] owner = new int[MOST_BOOKS];
        final int[] holder = new int[MOST_BOOKS];
        /** Bits of the people who have read it. */
        final int[] readers = new int[MOST_BOOKS];
        final int[] title = new int[MOST_BOOKS];
        int week;
        int steps;
        final int[] step = new int[MOST_STEPS];
        final int[] stepNumber = new int[MOST_STEPS];

        void copyFrom(Town from) {
            people = from.people;
            System.arraycopy(from.weight, 0, weight, 0, MOST_PEOPLE);
            System.arraycopy(from.appetite, 0, appetite, 0, MOST_PEOPLE);
            System.arraycopy(from.purse, 0, purse, 0, MOST_PEOPLE);
            books = from.books;
            System.arraycopy(from.kind, 0, kind, 0, MOST_BOOKS);
            System.arraycopy(from.figure, 0, figure, 0, MOST_BOOKS);
            System.arraycopy(from.owner, 0, owner, 0, MOST_BOOKS);
            System.arraycopy(from.holder, 0, holder, 0, MOST_BOOKS);
            System.arraycopy(from.readers, 0, readers, 0, MOST_BOOKS);
            System.arraycopy(from.title, 0, title, 0, MOST_BOOKS);
            week = from.week;
            steps = from.steps;
            System.arraycopy(from.step, 0, step, 0, MOST_STEPS);
            System.arraycopy(from.stepNumber, 0, stepNumber, 0, MOST_STEPS);
        }

        boolean hasPerson(int number) {
            return number >= 0 && number < people;
        }

        /** One who can own or hold: of the people, or the town. */
        boolean hasKeeper(int number) {
            return number == TOWN || hasPerson(number);
        }

        boolean hasBook(int number) {
            return number >= 0 && number < books;
        }

        /** To be called while there is room. */
        int addPerson(int heavy, int hungry, int money) {
            int number = people;
            if (number < MOST_PEOPLE) {
                weight[number] = heavy;
                appetite[number] = hungry;
                purse[number] = money;
                people++;
            }
            return number;
        }

        /** To be called while there is room. */
        int addBook(int ofKind, int withFigure, int ofOwner, int withTitle) {
            int number = books;
            if (number < MOST_BOOKS) {
                kind[number] = ofKind;
                figure[number] = withFigure;
                owner[number] = ofOwner;
                holder[number] = ofOwner;
                readers[number] = 0;
                title[number] = withTitle;
                books++;
            }
            return number;
        }

        /** To be called while there is room. */
        void addStep(int which, int number) {
            if (steps < MOST_STEPS) {
                step[steps] = which;
                stepNumber[steps] = number;
                steps++;
            }
        }

        // ---- what books weigh and cost

        int weighs(int book) {
            int read = Integer.bitCount(readers[book]);
            int atlas = 2 * figure[book];
            int novel = read == 0 ? 0 : figure[book] + read;
            int hymnal = novel + 2;
            int poems = hymnal + read;
            int sermon = read == 0 ? figure[book] + 5 : novel;
            switch (kind[book]) {
                case 0: return novel;
                case 1: return hymnal;
                case 2: return atlas;
                case 3: return sermon;
                case 4: return poems;
                case 5: return atlas / 2 + Titles.lengthOf(title[book]);
                case 6: return sermon + (week % 2 == 1 ? 3 : 0);
                default: return Math.max(10, poems);
            }
        }

        int priceOf(int book) {
            int novel = figure[book] + 1;
            int hymnal = 2;
            int atlas = 3 * novel;
            int sermon = 1;
            switch (kind[book]) {
                case 0: return novel;
                case 1: return hymnal;
                case 2: return atlas;
                case 3: return sermon;
                case 4: return hymnal + figure[book];
                case 5: return Math.max(0, atlas - 5);
                case 6: return sermon + 4;
                default: return 0;
            }
        }

        /** 1 or 0, so that readers can be added up. */
        int hasRead(int person, int book) {
            return readers[book] >> person & 1;
        }

        boolean isOnPan(int one, int other, int book) {
            return holder[book] == one || holder[book] == other;
        }

        int comesTo(int one, int other, int book) {
            int readByTwo = hasRead(one, book) + hasRead(other, book);
            int heavy = weighs(book);
            for (int i = 0; i < steps; i++) {
                heavy = stepped(heavy, i, readByTwo);
            }
            return heavy;
        }

        int stepped(int heavy, int place, int readByTwo) {
            int number = stepNumber[place];
            switch (step[place]) {
                case 0: return heavy + number;
                case 1: return Math.max(0, heavy - number);
                case 2: return Math.min(heavy, number);
                case 3: return heavy < number ? 0 : heavy;
                case 4: return readByTwo == 2 ? 2 * heavy : heavy;
                case 5: return readByTwo == 0 ? 0 : heavy;
                case 6: return heavy / 2;
                default: return heavy + week % 2;
            }
        }

        int overOf(int one, int other) {
            int over = -weight[one] - weight[other];
            for (int book = 0; book < books; book++) {
                if (isOnPan(one, other, book)) {
                    over += comesTo(one, other, book);
                }
            }
            return over;
        }

        boolean comesDown(int one, int other) {
            return overOf(one, other) >= 0;
        }

        int twosDown() {
            int many = 0;
            for (int one = 0; one < people; one++) {
                for (int other = one + 1; other < people; other++) {
                    if (comesDown(one, other)) {
                        many++;
                    }
                }
            }
            return many;
        }

        int closestTwo() {
            int closest = NONE;
            int least = 0;
            for (int one = 0; one < people; one++) {
                for (int other = one + 1; other < people; other++) {
                    int off = Math.abs(overOf(one, other));
                    if (closest == NONE || off < least) {
                        closest = 10 * one + other;
                        least = off;
                    }
                }
            }
            return closest;
        }

        // ---- weeks

        void weeksPass(int n) {
            for (int i = 0; i < n; i++) {
                weekPasses(true);
            }
        }

        void weekPasses(boolean theyRead) {
            week++;
            for (int person = 0; person < people; person++) {
                int every = appetite[person] + 2;
                if (every > 0 && week % every == 0) {
                    weight[person] = Math.min(MOST_HEAVY, weight[person] + 1);
                }
                if (theyRead) {
                    readNext(person);
                }
            }
        }

        void readNext(int person) {
            int next = NONE;
            for (int book = 0; book < books; book++) {
                if (holder[book] == person && hasRead(person, book) == 0
                    && (next == NONE || title[book] < title[next])) {
                    next = book;
                }
            }
            if (next != NONE) {
                readers[next] |= 1 << person;
                holder[next] = owner[next];
            }
        }

        void givesBack(int person) {
            for (int book = 0; book < books; book++) {
                if (holder[book] == person) {
                    holder[book] = owner[book];
                }
            }
        }

        // ---- titles in their order

        int bookWithTitle(int wanted) {
            for (int book = 0; book < books; book++) {
                if (title[book] == wanted) {
                    return book;
                }
            }
            return NONE;
        }

        int rankOf(int book) {
            int ahead = 0;
            for (int i = 0; i < books; i++) {
                if (title[i] < title[book]) {
                    ahead++;
                }
            }
            return ahead;
        }

        /** The book whose title is the first of those that are not ahead of the told one. */
        int firstTitleFrom(int least) {
            int found = NONE;
            for (int book = 0; book < books; book++) {
                if (title[book] >= least && (found == NONE || title[book] < title[found])) {
                    found = book;
                }
            }
            return found;
        }

        // ---- counts and sets

        int readings() {
            int many = 0;
            for (int book = 0; book < books; book++) {
                many += Integer.bitCount(readers[book]);
            }
            return many;
        }

        int readingsOf(int person) {
            return Integer.bitCount(booksReadBy(person));
        }

        int booksReadBy(int person) {
            int bits = 0;
            for (int book = 0; book < books; book++) {
                bits |= hasRead(person, book) << book;
            }
            return bits;
        }

        int unreadBooks() {
            int bits = 0;
            for (int book = 0; book < books; book++) {
                if (readers[book] == 0) {
                    bits |= 1 << book;
                }
            }
            return bits;
        }

        int lentBooks() {
            int bits = 0;
            for (int book = 0; book < books; book++) {
                if (holder[book] != owner[book]) {
                    bits |= 1 << book;
                }
            }
            return bits;
        }

        /** How many books have the wanted number in one of the rows above. */
        int booksWith(int[] numbers, int wanted) {
            int many = 0;
            for (int book = 0; book < books && book < numbers.length; book++) {
                if (numbers[book] == wanted) {
                    many++;
                }
            }
            return many;
        }

        int kindsHeldBy(int keeper) {
            int bits = 0;
            for (int book = 0; book < books; book++) {
                if (holder[book] == keeper) {
                    bits |= 1 << kind[book];
                }
            }
            return bits;
        }

        int pricesHeldBy(int keeper) {
            int prices = 0;
            for (int book = 0; book < books; book++) {
                if (holder[book] == keeper) {
                    prices += priceOf(book);
                }
            }
            return prices;
        }

        int mostHeldKind(int keeper) {
            int most = 0;
            int found = NONE;
            for (int wanted = 0; wanted < KINDS; wanted++) {
                int many = 0;
                for (int book = 0; book < books; book++) {
                    if (holder[book] == keeper && kind[book] == wanted) {
                        many++;
                    }
                }
                if (many > most) {
                    most = many;
                    found = wanted;
                }
            }
            return found;
        }

        int weightOfAll() {
            int sum = 0;
            for (int person = 0; person < people; person++) {
                sum += weight[person];
            }
            return sum;
        }

        int poorPeople() {
            int least = leastTownPrice();
            int many = 0;
            for (int person = 0; person < people; person++) {
                if (purse[person] < least) {
                    many++;
                }
            }
            return many;
        }

        int leastTownPrice() {
            int least = 0;
            boolean found = false;
            for (int book = 0; book < books; book++) {
                if (owner[book] == TOWN && (!found || priceOf(book) < least)) {
                    least = priceOf(book);
                    found = true;
                }
            }
            return least;
        }
    }

    /** The towns as they were ahead of the latest changes, in a ring. */
    private static final class Past {
        final Town[] kept = new Town[MOST_BACK];
        int latest = MOST_BACK - 1;
        int many;

        Past() {
            for (int i = 0; i < MOST_BACK; i++) {
                kept[i] = new Town();
            }
        }

        void keep(Town town) {
            latest = (latest + 1) % MOST_BACK;
            many = Math.min(MOST_BACK, many + 1);
            Town into = kept[latest];
            if (into != null) {
                into.copyFrom(town);
            }
        }

        void giveBack(Town town) {
            Town from = kept[latest];
            if (from != null) {
                town.copyFrom(from);
            }
            latest = (latest + MOST_BACK - 1) % MOST_BACK;
            many--;
        }

        void forget() {
            many = 0;
        }
    }

    /** The letters of a town that is being told, and the statements that they make. */
    private static final class Statements {
        static final int NO_LETTER = -1;
        static final int FAULT_OF_LETTERS = -1000;
        static final int FAULT_OF_SENSE = -2000;
        static final char[] STEP_LETTERS = {'a', 'l', 'c', 't', 'd', 'u', 'h', 'o'};

        final int[] letter = new int[MOST_LETTERS];
        int letters;
        /** Where the reading of the letters has come to. */
        int place;
        /** A fault further on must leave the town as it was: statements come into this one first. */
        final Town draft = new Town();

        int addLetter(int added) {
            if (letters < MOST_LETTERS) {
                letter[letters] = added;
                letters++;
            }
            return letters;
        }

        int tellTo(Town town) {
            if (!canBeRead()) {
                return FAULT_OF_LETTERS - place;
            }
            draft.copyFrom(town);
            place = 0;
            int many = 0;
            while (many < MOST_LETTERS && place < letters) {
                int start = place;
                int head = here();
                place++;
                if (!takeBody(head)) {
                    return FAULT_OF_SENSE - start;
                }
                // Behind the body stands its ";".
                place++;
                many++;
            }
            town.copyFrom(draft);
            return many;
        }

        // ---- the letters, whether they can be read: place stops at the first that can't

        boolean canBeRead() {
            place = 0;
            boolean good = passStatement();
            for (int i = 0; i < MOST_LETTERS && good && place < letters; i++) {
                good = passStatement();
            }
            return good;
        }

        boolean passStatement() {
            int head = here();
            if (head != 'p' && head != 'b' && head != 'r' && head != 'h' && head != 'l' && head != 'w') {
                return false;
            }
            place++;
            return passBody(head) && passLetter(';');
        }

        boolean passBody(int head) {
            switch (head) {
                case 'p': return passDigits(5);
                case 'b': return passDigits(3) && passTitle();
                case 'l': return passSteps();
                case 'w': return passDigits(2);
                default: return passDigits(1) && passTitle();
            }
        }

        boolean passSteps() {
            for (int i = 0; i < MOST_LETTERS && here() != ';'; i++) {
                int which = stepHere();
                if (which == NONE) {
                    return false;
                }
                place++;
                if (which < STEPS_WITH_NUMBER && !passDigits(2)) {
                    return false;
                }
            }
            return true;
        }

        boolean passTitle() {
            if (!isTitleLetter(here())) {
                return false;
            }
            while (place < letters && isTitleLetter(here())) {
                place++;
            }
            return true;
        }

        boolean passDigits(int many) {
            for (int i = 0; i < many; i++) {
                if (here() < '0' || here() > '9') {
                    return false;
                }
                place++;
            }
            return true;
        }

        boolean passLetter(int wanted) {
            if (here() != wanted) {
                return false;
            }
            place++;
            return true;
        }

        int here() {
            return place >= 0 && place < letters ? letter[place] : NO_LETTER;
        }

        int stepHere() {
            for (int which = 0; which < STEPS; which++) {
                if (STEP_LETTERS[which] == here()) {
                    return which;
                }
            }
            return NONE;
        }

        boolean isTitleLetter(int sign) {
            return sign >= 'a' && sign <= 'z';
        }

        // ---- the statements, whether they are as they must be: only of letters that can be read

        boolean takeBody(int head) {
            switch (head) {
                case 'p': return takePerson();
                case 'b': return takeBook();
                case 'r': return takeReading();
                case 'h': return takeHolder();
                case 'l': return takeLaw();
                default: return takeWeeks();
            }
        }

        boolean takePerson() {
            int weight = takeNumber(2);
            int appetite = takeNumber(1);
            int purse = takeNumber(2);
            if (draft.people >= MOST_PEOPLE) {
                return false;
            }
            draft.addPerson(weight, appetite, purse);
            return true;
        }

        boolean takeBook() {
            int kind = takeNumber(1);
            int figure = takeNumber(1);
            int owner = takeNumber(1);
            int title = takeTitle();
            if (kind >= KINDS || !draft.hasKeeper(owner) || draft.books >= MOST_BOOKS
                || title == Titles.NO_TITLE || draft.bookWithTitle(title) != NONE) {
                return false;
            }
            draft.addBook(kind, figure, owner, title);
            return true;
        }

        boolean takeReading() {
            int person = takeNumber(1);
            int book = draft.bookWithTitle(takeTitle());
            if (!draft.hasPerson(person) || !draft.hasBook(book)) {
                return false;
            }
            draft.readers[book] |= 1 << person;
            return true;
        }

        boolean takeHolder() {
            int keeper = takeNumber(1);
            int book = draft.bookWithTitle(takeTitle());
            if (!draft.hasKeeper(keeper) || !draft.hasBook(book)) {
                return false;
            }
            draft.holder[book] = keeper;
            return true;
        }

        boolean takeLaw() {
            draft.steps = 0;
            int many = 0;
            for (int i = 0; i < MOST_LETTERS && here() != ';'; i++) {
                int which = stepHere();
                place++;
                int number = which < STEPS_WITH_NUMBER ? takeNumber(2) : 0;
                draft.addStep(which, number);
                many++;
            }
            return many <= MOST_STEPS;
        }

        boolean takeWeeks() {
            int n = takeNumber(2);
            if (n < 1 || n > MOST_AHEAD || draft.week + n > LAST_WEEK) {
                return false;
            }
            draft.weeksPass(n);
            return true;
        }

        int takeNumber(int digits) {
            int number = 0;
            for (int i = 0; i < digits; i++) {
                number = 10 * number + here() - '0';
                place++;
            }
            return number;
        }

        int takeTitle() {
            int title = 0;
            int length = 0;
            while (place < letters && isTitleLetter(here())) {
                if (length < Titles.LETTERS) {
                    title = Titles.longer(title, length, here() - 'a');
                }
                length++;
                place++;
            }
            return length <= Titles.LETTERS ? title : Titles.NO_TITLE;
        }
    }

    /** What would be, in a town of its own that starts as the told one is now. */
    private static final class Foresight {
        static final int SPRING_WEEKS = 8;
        static final int GIFT = 2;

        final Town mind = new Town();
        final int[] onesGain = new int[4];
        final int[] othersGain = new int[4];
        int loan;
        int loanWeeks;
        int springReadings;
        int springTwos;

        void think(Town now) {
            mind.copyFrom(now);
        }

        Town after(Town now, int n) {
            think(now);
            mind.weeksPass(n);
            return mind;
        }

        int whenDown(Town now, int one, int other) {
            think(now);
            return weeksTillDown(one, other, MOST_AHEAD);
        }

        int weeksTillDown(int one, int other, int last) {
            for (int n = 0; n <= last; n++) {
                if (mind.comesDown(one, other)) {
                    return n;
                }
                mind.weekPasses(true);
            }
            return NONE;
        }

        int firstDown(Town now) {
            think(now);
            for (int n = 0; n < MOST_AHEAD; n++) {
                mind.weekPasses(true);
                int found = firstFreshlyDown(now);
                if (found != NONE) {
                    return found;
                }
            }
            return NONE;
        }

        int firstFreshlyDown(Town now) {
            for (int one = 0; one < now.people; one++) {
                for (int other = one + 1; other < now.people; other++) {
                    if (mind.comesDown(one, other) && !now.comesDown(one, other)) {
                        return 10 * one + other;
                    }
                }
            }
            return NONE;
        }

        void seekLoan(Town now, int one, int other) {
            loan = NONE;
            loanWeeks = NONE;
            int last = MOST_AHEAD;
            for (int book = 0; book < now.books; book++) {
                if (!now.isOnPan(one, other, book)) {
                    think(now);
                    mind.holder[book] = one;
                    int soon = weeksTillDown(one, other, last);
                    if (soon != NONE) {
                        loan = book;
                        loanWeeks = soon;
                        // Only a sooner one is better than this.
                        last = soon - 1;
                    }
                }
            }
        }

        int bestTaught(Town now, int person, int one, int other, int n) {
            int best = NONE;
            int most = after(now, n).overOf(one, other);
            for (int book = 0; book < now.books; book++) {
                think(now);
                mind.readers[book] |= 1 << person;
                mind.weeksPass(n);
                int over = mind.overOf(one, other);
                if (over > most) {
                    best = book;
                    most = over;
                }
            }
            return best;
        }

        /**
         * The kinds (or figures) of a book, as bits, by which the row is so. Neither changes what is read, so
         * the weeks pass once for all that are tried.
         */
        int bitsBy(int[] row, int inRow, int one, int other, int book, boolean ofKinds) {
            int[] changed = ofKinds ? mind.kind : mind.figure;
            int many = ofKinds ? KINDS : MOST_FIGURE + 1;
            int left = (1 << many) - 1;
            for (int week = 0; week < inRow && week < row.length; week++) {
                for (int tried = 0; tried < many; tried++) {
                    changed[book] = tried;
                    if (mind.overOf(one, other) != row[week]) {
                        left &= ~(1 << tried);
                    }
                }
                mind.weekPasses(true);
            }
            return left;
        }

        /** A choice of two has two bits: 2 if the one gives, 1 if the other gives. */
        int steadyPair(Town now, int one, int other, int n) {
            for (int choice = 0; choice < 4; choice++) {
                weighChoice(now, one, other, n, choice);
            }
            for (int choice = 0; choice < 4; choice++) {
                if (onesGain[choice] >= onesGain[choice ^ 2] && othersGain[choice] >= othersGain[choice ^ 1]) {
                    return 10 * (choice >> 1) + (choice & 1);
                }
            }
            return NONE;
        }

        void weighChoice(Town now, int one, int other, int n, int choice) {
            int oneGives = choice >> 1;
            int otherGives = choice & 1;
            think(now);
            if (oneGives == 1) {
                mind.givesBack(one);
            }
            if (otherGives == 1) {
                mind.givesBack(other);
            }
            mind.weeksPass(n);
            onesGain[choice] = mind.readingsOf(one) + GIFT * oneGives;
            othersGain[choice] = mind.readingsOf(other) + GIFT * otherGives;
        }

        /**
         * Of the t to the n cases those in which it comes down. What is read asks neither for the week nor
         * for the weights, so it is enough how many of the weeks are dry, not which.
         */
        long dampCases(Town now, int one, int other, int n, int t) {
            long cases = 0;
            long ways = 1;
            long dryCases = 1;
            for (int dry = 0; dry <= n; dry++) {
                think(now);
                for (int week = 0; week < n; week++) {
                    mind.weekPasses(week < dry);
                }
                if (mind.comesDown(one, other)) {
                    cases += ways * dryCases;
                }
                ways = ways * (n - dry) / (dry + 1);
                dryCases = dryCases * (t - 1);
            }
            return cases;
        }

        void drawSprings(Town now, int n, int z) {
            int drawn = z;
            springReadings = 0;
            springTwos = 0;
            for (int spring = 0; spring < n; spring++) {
                think(now);
                for (int book = 0; book < mind.books; book++) {
                    drawn = drawn * 1103515245 + 12345;
                    mind.holder[book] = keeperDrawn(drawn);
                }
                mind.weeksPass(SPRING_WEEKS);
                springReadings += mind.readings() - now.readings();
                springTwos += mind.twosDown();
            }
        }

        int keeperDrawn(int drawn) {
            return mind.people > 0 ? (drawn & 0x7fffffff) / 65536 % mind.people : TOWN;
        }
    }

    /** What two would best buy of the town for their pan to come down. */
    private static final class Bargain {
        final int[] price = new int[MOST_BOOKS];
        final int[] heavy = new int[MOST_BOOKS];
        int set;
        int prices;

        void seek(Town town, int one, int other) {
            int lacking = -town.overOf(one, other);
            int offered = offer(town, one, other);
            set = NONE;
            prices = NONE;
            for (int tried = 0; tried < 1 << town.books; tried++) {
                if ((tried & ~offered) == 0 && sumOf(heavy, tried, town.books) >= lacking) {
                    takeIfBetter(tried, sumOf(price, tried, town.books));
                }
            }
        }

        /** Bits of the town's books that would add to the pan: one that lies there already adds nothing. */
        int offer(Town town, int one, int other) {
            int bits = 0;
            for (int book = 0; book < town.books; book++) {
                price[book] = town.priceOf(book);
                heavy[book] = town.comesTo(one, other, book);
                if (town.owner[book] == TOWN && !town.isOnPan(one, other, book)) {
                    bits |= 1 << book;
                }
            }
            return bits;
        }

        int sumOf(int[] values, int bits, int books) {
            int sum = 0;
            for (int book = 0; book < books && book < values.length; book++) {
                if ((bits >> book & 1) == 1) {
                    sum += values[book];
                }
            }
            return sum;
        }

        /** Sets are tried as bits from the least: of alike ones the first stays. */
        void takeIfBetter(int tried, int triedPrices) {
            if (set == NONE || triedPrices < prices
                || triedPrices == prices && Integer.bitCount(tried) < Integer.bitCount(set)) {
                set = tried;
                prices = triedPrices;
            }
        }
    }

    /** The most twos for which it comes down, none with one of the people in common. */
    private static final class Couples {
        /** For each of the people the bits of those with whom it comes down. */
        final int[] down = new int[MOST_PEOPLE];
        /** For each set of people, as bits, the most couples among them. */
        final int[] most = new int[1 << MOST_PEOPLE];
        final int[] partner = new int[MOST_PEOPLE];
        int many;

        void choose(Town town) {
            weighAll(town);
            int all = (1 << town.people) - 1;
            for (int free = 1; free <= all; free++) {
                most[free] = mostAmong(free, town.people);
            }
            many = most[all];
            pair(all, town.people);
        }

        void weighAll(Town town) {
            for (int one = 0; one < town.people; one++) {
                down[one] = 0;
                for (int other = one + 1; other < town.people; other++) {
                    if (town.comesDown(one, other)) {
                        down[one] |= 1 << other;
                    }
                }
            }
        }

        /** To be called when all lesser sets have their number. */
        int mostAmong(int free, int people) {
            int first = firstOf(free, people);
            int rest = free & ~(1 << first);
            int best = most[rest];
            for (int other = first + 1; other < people; other++) {
                if ((rest & down[first] & 1 << other) != 0) {
                    best = Math.max(best, 1 + most[rest & ~(1 << other)]);
                }
            }
            return best;
        }

        int firstOf(int bits, int people) {
            for (int person = 0; person < people; person++) {
                if ((bits & 1 << person) != 0) {
                    return person;
                }
            }
            return 0;
        }

        void pair(int all, int people) {
            int free = all;
            for (int person = 0; person < people; person++) {
                partner[person] = NONE;
            }
            for (int person = 0; person < people; person++) {
                if ((free & 1 << person) != 0) {
                    int chosen = firstPartner(person, free, people);
                    free &= ~(1 << person);
                    if (chosen != NONE) {
                        partner[person] = chosen;
                        partner[chosen] = person;
                        free &= ~(1 << chosen);
                    }
                }
            }
        }

        int firstPartner(int person, int free, int people) {
            int rest = free & ~(1 << person);
            for (int other = person + 1; other < people; other++) {
                if ((rest & down[person] & 1 << other) != 0
                    && 1 + most[rest & ~(1 << other)] == most[free]) {
                    return other;
                }
            }
            return NONE;
        }
    }
}
