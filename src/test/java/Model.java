import java.util.ArrayDeque;
import java.util.ArrayList;
import java.util.Comparator;
import java.util.Deque;
import java.util.HashMap;
import java.util.List;
import java.util.Map;
import java.util.TreeMap;
import java.util.TreeSet;
import java.util.function.Predicate;
import java.util.regex.Matcher;
import java.util.regex.Pattern;

/**
 * The document once more, said in another way than the class says it (texts, lists, sets, search through
 * all that there is), so that both are unlikely to be wrong alike.
 */
final class Model {
    private static final Pattern TOWN = Pattern.compile(
        "(?:(?:p[0-9]{5}|b[0-9]{3}[a-z]+|[rh][0-9][a-z]+|l(?:[alct][0-9]{2}|[duho])*|w[0-9]{2});)+");
    private static final String STEPS = "alctduho";

    private static final class Person {
        int weight;
        int appetite;
        int purse;
    }

    private static final class Book {
        int kind;
        int figure;
        String title;
        int owner;
        int holder;
        TreeSet<Integer> read = new TreeSet<>();
    }

    private static final class State {
        List<Person> people = new ArrayList<>();
        List<Book> books = new ArrayList<>();
        List<int[]> law = new ArrayList<>();
        int week;

        State copy() {
            State s = new State();
            for (Person p : people) {
                Person q = new Person();
                q.weight = p.weight;
                q.appetite = p.appetite;
                q.purse = p.purse;
                s.people.add(q);
            }
            for (Book b : books) {
                Book d = new Book();
                d.kind = b.kind;
                d.figure = b.figure;
                d.title = b.title;
                d.owner = b.owner;
                d.holder = b.holder;
                d.read.addAll(b.read);
                s.books.add(d);
            }
            s.law.addAll(law);
            s.week = week;
            return s;
        }
    }

    private State s = new State();
    private State image;
    private final Deque<State> past = new ArrayDeque<>();
    private final StringBuilder letters = new StringBuilder();
    private final List<Integer> row = new ArrayList<>();
    private final Map<Integer, Integer> refusals = new HashMap<>();

    private int no(int refusal) {
        refusals.merge(refusal, 1, Integer::sum);
        return refusal;
    }

    private boolean p(int person) {
        return person >= 0 && person < s.people.size();
    }

    private boolean b(int book) {
        return book >= 0 && book < s.books.size();
    }

    private boolean pp(int one, int other) {
        return p(one) && p(other) && one != other;
    }

    // ---- I.

    private static int weighs(State s, Book b) {
        int k = b.read.size();
        int novel = k == 0 ? 0 : b.figure + k;
        int sermon = k == 0 ? b.figure + 5 : novel;
        int[] all = {novel, novel + 2, b.figure * 2, sermon, novel + 2 + k, b.figure + b.title.length(),
            s.week % 2 == 0 ? sermon : sermon + 3, Math.max(novel + 2 + k, 10)};
        return all[b.kind];
    }

    private static int price(Book b) {
        int f = b.figure;
        return new int[] {f + 1, 2, 3 * f + 3, 1, f + 2, Math.max(3 * f - 2, 0), 5, 0}[b.kind];
    }

    private static int comesTo(State s, int one, int other, Book b) {
        int m = (b.read.contains(one) ? 1 : 0) + (b.read.contains(other) ? 1 : 0);
        int v = weighs(s, b);
        for (int[] step : s.law) {
            int n = step[1];
            switch (STEPS.charAt(step[0])) {
                case 'a' -> v += n;
                case 'l' -> v = v > n ? v - n : 0;
                case 'c' -> v = v > n ? n : v;
                case 't' -> v = v >= n ? v : 0;
                case 'd' -> v = m == 2 ? v + v : v;
                case 'u' -> v = m > 0 ? v : 0;
                case 'h' -> v = (int) Math.floor(v / 2.0);
                default -> v += s.week % 2;
            }
        }
        return v;
    }

    private static boolean held(Book b, int one, int other) {
        return b.holder == one || b.holder == other;
    }

    private static int over(State s, int one, int other) {
        int pan = s.books.stream().filter(b -> held(b, one, other)).mapToInt(b -> comesTo(s, one, other, b)).sum();
        return pan - s.people.get(one).weight - s.people.get(other).weight;
    }

    private static boolean down(State s, int one, int other) {
        return over(s, one, other) >= 0;
    }

    private static List<int[]> twos(State s) {
        List<int[]> all = new ArrayList<>();
        for (int i = 0; i < s.people.size(); i++) {
            for (int j = i + 1; j < s.people.size(); j++) {
                all.add(new int[] {i, j});
            }
        }
        return all;
    }

    private static State week(State from, boolean dry) {
        State s = from.copy();
        s.week++;
        for (int i = 0; i < s.people.size(); i++) {
            int one = i;
            Person p = s.people.get(i);
            if (s.week % (2 + p.appetite) == 0 && p.weight < 99) {
                p.weight++;
            }
            if (dry) {
                s.books.stream().filter(b -> b.holder == one && !b.read.contains(one))
                    .min(Comparator.comparing(b -> b.title)).ifPresent(b -> {
                        b.read.add(one);
                        b.holder = b.owner;
                    });
            }
        }
        return s;
    }

    private static State on(State from, int n) {
        State s = from;
        for (int i = 0; i < n; i++) {
            s = week(s, true);
        }
        return s;
    }

    // ---- telling

    long feed(int letter) {
        if (letter < 0) {
            return no(-4);
        }
        if (letter > 255 || letters.length() == 96) {
            return no(-6);
        }
        letters.append((char) letter);
        return letters.length();
    }

    long town() {
        String text = letters.toString();
        letters.setLength(0);
        Matcher whole = TOWN.matcher(text);
        if (!whole.matches()) {
            for (int end = 1; end <= text.length(); end++) {
                Matcher part = TOWN.matcher(text.substring(0, end));
                if (!part.matches() && !part.hitEnd()) {
                    return -1000 - (end - 1);
                }
            }
            return -1000 - text.length();
        }
        State draft = s.copy();
        int place = 0;
        String[] statements = text.split(";");
        for (String statement : statements) {
            draft = told(draft, statement);
            if (draft == null) {
                return -2000 - place;
            }
            place += statement.length() + 1;
        }
        s = draft;
        past.clear();
        return statements.length;
    }

    private static int number(String text, int from, int to) {
        return Integer.parseInt(text.substring(from, to));
    }

    private static Book titled(State s, String title) {
        return s.books.stream().filter(b -> b.title.equals(title)).findAny().orElse(null);
    }

    private static State told(State s, String text) {
        switch (text.charAt(0)) {
            case 'p': {
                Person p = new Person();
                p.weight = number(text, 1, 3);
                p.appetite = number(text, 3, 4);
                p.purse = number(text, 4, 6);
                s.people.add(p);
                return s.people.size() > 6 ? null : s;
            }
            case 'b': {
                Book b = new Book();
                b.kind = number(text, 1, 2);
                b.figure = number(text, 2, 3);
                b.owner = number(text, 3, 4);
                b.holder = b.owner;
                b.title = text.substring(4);
                if (b.kind > 7 || b.owner != 9 && b.owner >= s.people.size() || b.title.length() > 4
                    || titled(s, b.title) != null || s.books.size() == 10) {
                    return null;
                }
                s.books.add(b);
                return s;
            }
            case 'r':
            case 'h': {
                int who = number(text, 1, 2);
                Book b = titled(s, text.substring(2));
                boolean there = who < s.people.size() || who == 9 && text.charAt(0) == 'h';
                if (b == null || !there) {
                    return null;
                }
                if (text.charAt(0) == 'h') {
                    b.holder = who;
                } else {
                    b.read.add(who);
                }
                return s;
            }
            case 'l': {
                s.law.clear();
                Matcher step = Pattern.compile("([a-z])([0-9]*)").matcher(text.substring(1));
                while (step.find()) {
                    String n = step.group(2);
                    s.law.add(new int[] {STEPS.indexOf(step.group(1)), n.isEmpty() ? 0 : Integer.parseInt(n)});
                }
                return s.law.size() > 6 ? null : s;
            }
            default: {
                int n = number(text, 1, 3);
                return n < 1 || n > 60 || s.week + n > 999 ? null : on(s, n);
            }
        }
    }

    long comes(int weight, int appetite, int purse) {
        if (Math.min(weight, Math.min(appetite, purse)) < 0) {
            return no(-4);
        }
        if (weight > 99 || appetite > 9 || purse > 99 || s.people.size() == 6) {
            return no(-6);
        }
        Person p = new Person();
        p.weight = weight;
        p.appetite = appetite;
        p.purse = purse;
        s.people.add(p);
        past.clear();
        return s.people.size() - 1;
    }

    long brings(int kind, int figure, int owner, int letter) {
        if (kind < 0 || kind > 7) {
            return no(-2);
        }
        if (figure < 0 || letter < 0) {
            return no(-4);
        }
        if (figure > 9 || letter > 25 || s.books.size() == 10) {
            return no(-6);
        }
        if (owner != 9 && !p(owner)) {
            return no(-1);
        }
        String title = String.valueOf((char) ('a' + letter));
        if (titled(s, title) != null) {
            return no(-3);
        }
        Book b = new Book();
        b.kind = kind;
        b.figure = figure;
        b.title = title;
        b.owner = owner;
        b.holder = owner;
        s.books.add(b);
        past.clear();
        return s.books.size() - 1;
    }

    // ---- looked at

    long person(int person, int what) {
        if (!p(person)) {
            return no(-1);
        }
        Person p = s.people.get(person);
        return switch (what) {
            case 0 -> p.weight;
            case 1 -> p.appetite;
            case 2 -> p.purse;
            case 3 -> s.books.stream().filter(b -> b.read.contains(person)).count();
            case 4 -> s.books.stream().filter(b -> b.holder == person).count();
            case 5 -> s.books.stream().filter(b -> b.owner == person).count();
            default -> no(-2);
        };
    }

    long book(int book, int what) {
        if (!b(book)) {
            return no(-1);
        }
        Book b = s.books.get(book);
        return switch (what) {
            case 0 -> b.kind;
            case 1 -> b.figure;
            case 2 -> b.owner;
            case 3 -> b.holder;
            case 4 -> b.read.stream().mapToInt(r -> 1 << r).sum();
            case 5 -> weighs(s, b);
            case 6 -> price(b);
            case 7 -> b.title.length();
            default -> no(-2);
        };
    }

    long title(int book, int place) {
        if (!b(book)) {
            return no(-1);
        }
        if (place < 0) {
            return no(-4);
        }
        String title = s.books.get(book).title;
        return place < title.length() ? title.charAt(place) - 'a' : -9;
    }

    // ---- changes

    private void keep() {
        past.push(s.copy());
        if (past.size() > 8) {
            past.removeLast();
        }
    }

    long eats(int person, int weight) {
        if (!p(person)) {
            return no(-1);
        }
        if (weight < 0) {
            return no(-4);
        }
        if (weight > 99) {
            return no(-6);
        }
        keep();
        int old = s.people.get(person).weight;
        s.people.get(person).weight = weight;
        return old;
    }

    long reads(int person, int book) {
        if (!p(person) || !b(book)) {
            return no(-1);
        }
        keep();
        return s.books.get(book).read.add(person) ? 1 : 0;
    }

    long lends(int book, int holder) {
        if (!b(book) || holder != 9 && !p(holder)) {
            return no(-1);
        }
        keep();
        int old = s.books.get(book).holder;
        s.books.get(book).holder = holder;
        return old;
    }

    long buys(int person, int book) {
        if (!p(person) || !b(book)) {
            return no(-1);
        }
        Book b = s.books.get(book);
        if (b.owner != 9 || s.people.get(person).purse < price(b)) {
            return no(-3);
        }
        keep();
        b.owner = person;
        b.holder = person;
        return s.people.get(person).purse -= price(b);
    }

    long step(int step, int n) {
        if (step < 0 || step > 7) {
            return no(-2);
        }
        if (n < 0) {
            return no(-4);
        }
        if (n > 99 || s.law.size() == 6) {
            return no(-6);
        }
        keep();
        s.law.add(new int[] {step, n});
        return s.law.size();
    }

    long clearLaw() {
        keep();
        int had = s.law.size();
        s.law.clear();
        return had;
    }

    long weeks(int n) {
        if (n < 1) {
            return no(-4);
        }
        if (n > 60 || s.week + n > 999) {
            return no(-6);
        }
        keep();
        s = on(s, n);
        return s.week;
    }

    long back() {
        if (past.isEmpty()) {
            return no(-3);
        }
        s = past.pop();
        return past.size();
    }

    // ---- weighed

    long over(int one, int other) {
        return pp(one, other) ? over(s, one, other) : 1000000000 - no(-1);
    }

    long pan(int one, int other, int book) {
        return pp(one, other) && b(book) ? comesTo(s, one, other, s.books.get(book)) : no(-1);
    }

    long overThen(int one, int other, int n) {
        if (!pp(one, other)) {
            return 1000000000 - no(-1);
        }
        if (n < 0 || n > 60) {
            return 1000000000 - no(n < 0 ? -4 : -6);
        }
        return over(on(s, n), one, other);
    }

    long then(int n, int what, int of) {
        if (n < 0 || n > 60) {
            return no(n < 0 ? -4 : -6);
        }
        if (what < 0 || what > 2) {
            return no(-2);
        }
        if (what == 0 ? !p(of) : !b(of)) {
            return no(-1);
        }
        State later = on(s, n);
        return what == 0 ? later.people.get(of).weight
            : what == 1 ? later.books.get(of).read.size() : later.books.get(of).holder;
    }

    private static int soonest(State from, Predicate<State> so) {
        State s = from;
        for (int n = 0; n <= 60; n++) {
            if (so.test(s)) {
                return n;
            }
            s = week(s, true);
        }
        return 1000;
    }

    private static int none(int n) {
        return n == 1000 ? -9 : n;
    }

    long when(int one, int other) {
        return pp(one, other) ? none(soonest(s, t -> down(t, one, other))) : no(-1);
    }

    long first() {
        int best = 1000;
        int found = -9;
        for (int[] two : twos(s)) {
            int n = soonest(s, t -> down(t, two[0], two[1]));
            if (n > 0 && n < best) {
                best = n;
                found = 10 * two[0] + two[1];
            }
        }
        return found;
    }

    long buy(int one, int other, int what) {
        if (!pp(one, other)) {
            return no(-1);
        }
        if (what < 0 || what > 1) {
            return no(-2);
        }
        int[] best = null;
        for (int set = 0; set < 1 << s.books.size(); set++) {
            State t = s.copy();
            int prices = 0;
            boolean all = true;
            for (int i = 0; i < t.books.size(); i++) {
                if ((set & 1 << i) != 0) {
                    all &= t.books.get(i).owner == 9;
                    prices += price(t.books.get(i));
                    if (t.books.get(i).holder != other) {
                        t.books.get(i).holder = one;
                    }
                }
            }
            int[] here = {prices, Integer.bitCount(set), set};
            if (all && down(t, one, other) && (best == null || java.util.Arrays.compare(here, best) < 0)) {
                best = here;
            }
        }
        return best == null ? -9 : best[what == 0 ? 2 : 0];
    }

    long borrow(int one, int other, int what) {
        if (!pp(one, other)) {
            return no(-1);
        }
        if (what < 0 || what > 1) {
            return no(-2);
        }
        TreeMap<Integer, Integer> byWeeks = new TreeMap<>();
        for (int i = 0; i < s.books.size(); i++) {
            if (!held(s.books.get(i), one, other)) {
                State t = s.copy();
                t.books.get(i).holder = one;
                byWeeks.putIfAbsent(soonest(t, u -> down(u, one, other)), i);
            }
        }
        if (byWeeks.isEmpty() || byWeeks.firstKey() == 1000) {
            return -9;
        }
        return what == 0 ? byWeeks.firstEntry().getValue() : byWeeks.firstKey();
    }

    long taught(int person, int one, int other, int n) {
        if (!p(person) || !pp(one, other)) {
            return no(-1);
        }
        if (n < 0 || n > 60) {
            return no(n < 0 ? -4 : -6);
        }
        TreeMap<Integer, Integer> byOver = new TreeMap<>();
        byOver.put(over(on(s, n), one, other), -9);
        for (int i = 0; i < s.books.size(); i++) {
            State t = s.copy();
            t.books.get(i).read.add(person);
            byOver.putIfAbsent(over(on(t, n), one, other), i);
        }
        return byOver.lastEntry().getValue();
    }

    long couples(int person) {
        if (person < -1 || person >= s.people.size()) {
            return no(-1);
        }
        List<int[]> choices = new ArrayList<>();
        int[] partners = new int[s.people.size()];
        java.util.Arrays.fill(partners, -1);
        choose(partners, 0, choices);
        int[] best = choices.get(0);
        for (int[] choice : choices) {
            if (married(choice) > married(best)) {
                best = choice;
            }
        }
        return person == -1 ? married(best) / 2 : best[person];
    }

    private static int married(int[] partners) {
        int many = 0;
        for (int partner : partners) {
            many += partner >= 0 ? 1 : 0;
        }
        return many;
    }

    /** All choices in their order: -1 is not yet looked at, -9 is nobody. */
    private void choose(int[] partners, int person, List<int[]> choices) {
        if (person == partners.length) {
            choices.add(partners.clone());
        } else if (partners[person] != -1) {
            choose(partners, person + 1, choices);
        } else {
            for (int other = 0; other < partners.length; other++) {
                if (other != person && partners[other] == -1 && down(s, person, other)) {
                    partners[person] = other;
                    partners[other] = person;
                    choose(partners, person + 1, choices);
                    partners[other] = -1;
                }
            }
            partners[person] = -9;
            choose(partners, person + 1, choices);
            partners[person] = -1;
        }
    }

    long heaviest(int one, int other, int i) {
        if (!pp(one, other)) {
            return no(-1);
        }
        if (i < 0) {
            return no(-4);
        }
        List<Book> pan = new ArrayList<>(s.books);
        pan.removeIf(b -> !held(b, one, other));
        pan.sort(Comparator.<Book>comparingInt(b -> -comesTo(s, one, other, b)).thenComparing(b -> b.title));
        return i < pan.size() ? s.books.indexOf(pan.get(i)) : -9;
    }

    private boolean rowIsSo(State from, int one, int other) {
        for (int i = 0; i < row.size(); i++) {
            if (over(on(from, i), one, other) != row.get(i)) {
                return false;
            }
        }
        return true;
    }

    long whatKind(int one, int other, int book, int what) {
        if (!pp(one, other) || !b(book)) {
            return no(-1);
        }
        if (what < 0 || what > 1) {
            return no(-2);
        }
        int bits = 0;
        for (int i = 0; i < (what == 0 ? 8 : 10); i++) {
            State t = s.copy();
            if (what == 0) {
                t.books.get(book).kind = i;
            } else {
                t.books.get(book).figure = i;
            }
            bits += rowIsSo(t, one, other) ? 1 << i : 0;
        }
        return bits;
    }

    long two(int one, int other, int n) {
        if (!pp(one, other)) {
            return no(-1);
        }
        if (n < 1 || n > 30) {
            return no(n < 1 ? -4 : -6);
        }
        for (int a = 0; a < 2; a++) {
            for (int b = 0; b < 2; b++) {
                if (gain(one, a, other, b, n) >= gain(one, 1 - a, other, b, n)
                    && gain(other, b, one, a, n) >= gain(other, 1 - b, one, a, n)) {
                    return 10 * a + b;
                }
            }
        }
        return -9;
    }

    private long gain(int who, int gives, int other, int otherGives, int n) {
        State t = s.copy();
        for (Book b : t.books) {
            if (b.holder == who && gives == 1 || b.holder == other && otherGives == 1) {
                b.holder = b.owner;
            }
        }
        return on(t, n).books.stream().filter(b -> b.read.contains(who)).count() + 2 * gives;
    }

    long damp(int one, int other, int n, int t, int part) {
        if (!pp(one, other)) {
            return 4000000000000000000L - no(-1);
        }
        if (n < 0 || t < 2) {
            return 4000000000000000000L - no(-4);
        }
        if (n > 7 || t > 20) {
            return 4000000000000000000L - no(-6);
        }
        if (part < 0 || part > 1) {
            return 4000000000000000000L - no(-2);
        }
        long below = 1;
        for (int i = 0; i < n; i++) {
            below *= t;
        }
        return told(cases(s, one, other, n, t), below, part);
    }

    private static long cases(State s, int one, int other, int n, int t) {
        if (n == 0) {
            return down(s, one, other) ? 1 : 0;
        }
        return cases(week(s, false), one, other, n - 1, t) + (t - 1) * cases(week(s, true), one, other, n - 1, t);
    }

    private static long told(long above, long below, int part) {
        if (above == 0) {
            return part;
        }
        java.math.BigInteger shared = java.math.BigInteger.valueOf(above).gcd(java.math.BigInteger.valueOf(below));
        return (part == 0 ? above : below) / shared.longValue();
    }

    // ---- seen

    private List<Book> ordered() {
        List<Book> all = new ArrayList<>(s.books);
        all.sort(Comparator.comparing(b -> b.title));
        return all;
    }

    long titles(int book, int what) {
        if (!b(book)) {
            return no(-1);
        }
        if (what < 0 || what > 1) {
            return no(-2);
        }
        List<Book> all = ordered();
        int rank = all.indexOf(s.books.get(book));
        return what == 0 ? rank : rank + 1 < all.size() ? s.books.indexOf(all.get(rank + 1)) : -9;
    }

    long from(int letter) {
        if (letter < 0 || letter > 25) {
            return no(letter < 0 ? -4 : -6);
        }
        return ordered().stream().filter(b -> b.title.charAt(0) >= 'a' + letter).findFirst()
            .map(b -> s.books.indexOf(b)).orElse(-9);
    }

    long shelf(int holder, int what) {
        if (holder != 9 && !p(holder)) {
            return no(-1);
        }
        List<Book> held = s.books.stream().filter(b -> b.holder == holder).toList();
        TreeMap<Integer, Integer> kinds = new TreeMap<>();
        held.forEach(b -> kinds.merge(b.kind, 1, Integer::sum));
        return switch (what) {
            case 0 -> held.size();
            case 1 -> kinds.keySet().stream().mapToInt(k -> 1 << k).sum();
            case 2 -> held.stream().mapToInt(Model::price).sum();
            case 3 -> kinds.entrySet().stream().max(Comparator.<Map.Entry<Integer, Integer>>comparingInt(
                e -> e.getValue()).thenComparing(e -> -e.getKey())).map(Map.Entry::getKey).orElse(-9);
            default -> no(-2);
        };
    }

    private long bits(Predicate<Book> so) {
        long bits = 0;
        for (int i = 0; i < s.books.size(); i++) {
            bits += so.test(s.books.get(i)) ? 1L << i : 0;
        }
        return bits;
    }

    long sight(int what) {
        switch (what) {
            case 0:
                return twos(s).stream().min(Comparator.comparingInt(t -> Math.abs(over(s, t[0], t[1]))))
                    .map(t -> 10 * t[0] + t[1]).orElse(-9);
            case 1:
                int least = s.books.stream().filter(b -> b.owner == 9).mapToInt(Model::price).min().orElse(0);
                return s.people.stream().filter(p -> p.purse < least).count();
            case 2:
                return bits(b -> b.read.isEmpty());
            case 3:
                return bits(b -> b.holder != b.owner);
            default:
                return no(-2);
        }
    }

    long share(int person, int part) {
        if (!p(person)) {
            return 4000000000000000000L - no(-1);
        }
        if (part < 0 || part > 1) {
            return 4000000000000000000L - no(-2);
        }
        return told(s.books.stream().filter(b -> b.read.contains(person)).count(), s.books.size(), part);
    }

    long byHeart(int one, int other) {
        return pp(one, other) ? bits(b -> b.read.contains(one) && b.read.contains(other)) : no(-1);
    }

    long kinds(int kind) {
        return kind < 0 || kind > 7 ? no(-2) : s.books.stream().filter(b -> b.kind == kind).count();
    }

    long row(int v) {
        if (v < -99) {
            return no(-4);
        }
        if (v > 99 || row.size() == 12) {
            return no(-6);
        }
        row.add(v);
        return row.size();
    }

    long judge() {
        int answer = -9;
        for (int i = 0; i < row.size() && answer == -9; i++) {
            answer = p(i) && s.people.get(i).weight == row.get(i) ? -9 : i;
        }
        row.clear();
        return answer;
    }

    long clear() {
        int had = row.size();
        row.clear();
        return had;
    }

    long lots(int n, int z, int what) {
        if (n < 1 || n > 20) {
            return no(n < 1 ? -4 : -6);
        }
        if (what < 0 || what > 1) {
            return no(-2);
        }
        long seed = z;
        long sum = 0;
        for (int spring = 0; spring < n; spring++) {
            State t = s.copy();
            for (Book b : t.books) {
                b.holder = 9;
                if (!t.people.isEmpty()) {
                    seed = (int) (seed * 1103515245L + 12345L);
                    b.holder = (int) ((seed & 0x7fffffffL) >> 16) % t.people.size();
                }
            }
            State later = on(t, 8);
            if (what == 0) {
                sum += later.books.stream().mapToInt(b -> b.read.size()).sum()
                    - s.books.stream().mapToInt(b -> b.read.size()).sum();
            } else {
                sum += twos(later).stream().filter(two -> down(later, two[0], two[1])).count();
            }
        }
        return sum;
    }

    long image() {
        image = s.copy();
        return s.week;
    }

    long restore() {
        if (image == null) {
            return no(-3);
        }
        s = image.copy();
        past.clear();
        return s.week;
    }

    long count(int what) {
        return switch (what) {
            case 0 -> s.people.size();
            case 1 -> s.books.size();
            case 2 -> s.week;
            case 3 -> s.law.size();
            case 4 -> s.people.stream().mapToInt(p -> p.weight).sum();
            case 5 -> letters.length();
            case 6 -> row.size();
            case 7 -> past.size();
            case 8 -> twos(s).stream().filter(t -> down(s, t[0], t[1])).count();
            case 11, 12, 13, 14, 15, 16 -> refusals.getOrDefault(10 - what, 0);
            default -> -9;
        };
    }
}
