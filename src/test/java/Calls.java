import java.lang.reflect.InvocationTargetException;
import java.lang.reflect.Method;
import java.util.Random;

/** Every call of the face by its number, asked of the class or of the model, and arguments by lot. */
final class Calls {
    static final String[] NAMES = {"feed", "town", "person", "book", "title", "comes", "brings", "eats", "reads",
        "lends", "buys", "step", "clearLaw", "weeks", "back", "over", "pan", "overThen", "then", "when", "first",
        "buy", "borrow", "taught", "couples", "heaviest", "whatKind", "two", "damp", "titles", "from", "shelf",
        "sight", "share", "byHeart", "kinds", "row", "judge", "clear", "lots", "image", "restore", "count"};

    private static final Method[] OF_CLASS = methodsOf(WeighedInBooks.class);
    private static final Method[] OF_MODEL = methodsOf(Model.class);

    private Calls() {
    }

    static int index(String name) {
        for (int i = 0; i < NAMES.length; i++) {
            if (NAMES[i].equals(name)) {
                return i;
            }
        }
        throw new IllegalArgumentException(name);
    }

    static long answer(WeighedInBooks x, int which, int... arguments) {
        return answer(OF_CLASS[which], x, arguments);
    }

    static long answer(Model m, int which, int... arguments) {
        return answer(OF_MODEL[which], m, arguments);
    }

    private static long answer(Method call, Object of, int[] arguments) {
        Object[] told = new Object[arguments.length];
        for (int i = 0; i < told.length; i++) {
            told[i] = arguments[i];
        }
        try {
            return ((Number) call.invoke(of, told)).longValue();
        } catch (InvocationTargetException thrown) {
            throw new IllegalStateException(call.getName() + " threw " + thrown.getCause(), thrown);
        } catch (IllegalAccessException hidden) {
            throw new IllegalStateException(hidden);
        }
    }

    private static Method[] methodsOf(Class<?> type) {
        Method[] methods = new Method[NAMES.length];
        for (Method method : type.getDeclaredMethods()) {
            boolean ofNumbers = true;
            for (Class<?> parameter : method.getParameterTypes()) {
                ofNumbers &= parameter == int.class;
            }
            for (int i = 0; i < NAMES.length; i++) {
                if (ofNumbers && NAMES[i].equals(method.getName())) {
                    methods[i] = method;
                }
            }
        }
        return methods;
    }

    /** Mostly from 0 to the greatest, now and then just outside, now and then far. */
    private static int upTo(Random lot, int greatest) {
        switch (lot.nextInt(40)) {
            case 0: return -1;
            case 1: return greatest + 1;
            case 2: return lot.nextInt();
            case 3: return lot.nextBoolean() ? Integer.MIN_VALUE : Integer.MAX_VALUE;
            default: return lot.nextInt(greatest + 1);
        }
    }

    private static int person(Random lot, int people) {
        return lot.nextInt(12) == 0 ? upTo(lot, 9) : upTo(lot, Math.max(0, people - 1));
    }

    private static int keeper(Random lot, int people) {
        return lot.nextInt(4) == 0 ? 9 : person(lot, people);
    }

    private static int book(Random lot, int books) {
        return upTo(lot, Math.max(0, books - 1));
    }

    static int[] arguments(Random lot, int which, int people, int books) {
        int one = person(lot, people);
        int other = person(lot, people);
        if (one == other && people > 1 && lot.nextInt(8) > 0) {
            other = (one + 1 & 0x7fffffff) % people;
        }
        int book = book(lot, books);
        int little = upTo(lot, lot.nextBoolean() ? 5 : 60);
        switch (NAMES[which]) {
            case "feed": return new int[] {upTo(lot, 255)};
            case "person": return new int[] {one, upTo(lot, 5)};
            case "book": return new int[] {book, upTo(lot, 7)};
            case "title": return new int[] {book, upTo(lot, 4)};
            case "comes": return new int[] {upTo(lot, lot.nextBoolean() ? 12 : 99), upTo(lot, 9), upTo(lot, 99)};
            case "brings": return new int[] {upTo(lot, 7), upTo(lot, 9), keeper(lot, people), upTo(lot, 25)};
            case "eats": return new int[] {one, upTo(lot, lot.nextBoolean() ? 12 : 99)};
            case "reads":
            case "buys": return new int[] {one, book};
            case "lends": return new int[] {book, keeper(lot, people)};
            case "step": return new int[] {upTo(lot, 7), upTo(lot, lot.nextBoolean() ? 12 : 99)};
            case "weeks": return new int[] {little};
            case "pan": return new int[] {one, other, book};
            case "overThen": return new int[] {one, other, little};
            case "then": {
                int what = upTo(lot, 2);
                return new int[] {little, what, what == 0 ? one : book};
            }
            case "buy":
            case "borrow": return new int[] {one, other, upTo(lot, 1)};
            case "taught": return new int[] {person(lot, people), one, other, little};
            case "couples": return new int[] {lot.nextInt(3) == 0 ? -1 : one};
            case "heaviest": return new int[] {one, other, upTo(lot, 6)};
            case "whatKind": return new int[] {one, other, book, upTo(lot, 1)};
            case "two": return new int[] {one, other, lot.nextInt(4) == 0 ? little : upTo(lot, 30)};
            case "damp": return new int[] {one, other, upTo(lot, 7), 2 + upTo(lot, 18), upTo(lot, 1)};
            case "titles": return new int[] {book, upTo(lot, 1)};
            case "from": return new int[] {upTo(lot, 25)};
            case "shelf": return new int[] {keeper(lot, people), upTo(lot, 3)};
            case "sight": return new int[] {upTo(lot, 3)};
            case "share": return new int[] {one, upTo(lot, 1)};
            case "kinds": return new int[] {upTo(lot, 7)};
            case "row": return new int[] {lot.nextInt(10) - 5 + (lot.nextInt(8) == 0 ? lot.nextInt(220) - 110 : 0)};
            case "lots": return new int[] {1 + upTo(lot, 19), lot.nextInt(), upTo(lot, 1)};
            case "count": return new int[] {upTo(lot, 17)};
            case "over":
            case "when":
            case "byHeart": return new int[] {one, other};
            default: return new int[0];
        }
    }

    /** A text that is mostly a TOWN, with short titles so that they are met again. */
    static String text(Random lot, int people) {
        StringBuilder text = new StringBuilder();
        int statements = lot.nextInt(6);
        for (int i = 0; i <= statements; i++) {
            text.append(statement(lot, people));
        }
        if (lot.nextInt(5) == 0 && text.length() > 0) {
            int place = lot.nextInt(text.length());
            switch (lot.nextInt(3)) {
                case 0: text.setLength(place); break;
                case 1: text.deleteCharAt(place); break;
                default: text.setCharAt(place, "pbrhlwaz09;x{`/:A".charAt(lot.nextInt(17)));
            }
        }
        return text.toString();
    }

    private static String title(Random lot) {
        StringBuilder title = new StringBuilder();
        int length = 1 + lot.nextInt(lot.nextInt(8) == 0 ? 5 : 2);
        for (int i = 0; i < length; i++) {
            title.append("abzw".charAt(lot.nextInt(4)));
        }
        return title.toString();
    }

    private static String statement(Random lot, int people) {
        int who = lot.nextInt(8) == 0 ? lot.nextInt(10) : lot.nextInt(Math.max(1, people));
        int keeper = lot.nextInt(3) == 0 ? 9 : who;
        switch (lot.nextInt(12)) {
            case 0:
            case 1: return String.format("p%02d%d%02d;", lot.nextInt(lot.nextInt(3) == 0 ? 100 : 9), lot.nextInt(10),
                lot.nextInt(100));
            case 2:
            case 3:
            case 4:
            case 5: return "b" + lot.nextInt(lot.nextInt(20) == 0 ? 10 : 8) + lot.nextInt(10) + keeper + title(lot) + ";";
            case 6:
            case 7: return "r" + who + title(lot) + ";";
            case 8:
            case 9: return "h" + keeper + title(lot) + ";";
            case 10: {
                StringBuilder law = new StringBuilder("l");
                for (int i = lot.nextInt(lot.nextInt(8) == 0 ? 8 : 4); i > 0; i--) {
                    int step = lot.nextInt(8);
                    law.append("alctduho".charAt(step)).append(step < 4 ? String.format("%02d", lot.nextInt(25)) : "");
                }
                return law + ";";
            }
            default: return String.format("w%02d;", lot.nextInt(lot.nextInt(6) == 0 ? 100 : 4));
        }
    }
}
