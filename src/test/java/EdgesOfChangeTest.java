/** Promises 4 to 16, and what can be TAKEN BACK: each sentence that names an edge has a test of its own. */
public final class EdgesOfChangeTest {
    public static void main(String[] args) {
        Checks checks = new Checks();
        person(checks);
        book(checks);
        title(checks);
        comes(checks);
        brings(checks);
        eats(checks);
        reads(checks);
        lends(checks);
        buys(checks);
        step(checks);
        clearLaw(checks);
        weeks(checks);
        back(checks);
        checks.end();
    }

    private static void person(Checks t) {
        Runs.test(t, "4: \"-1\"", Runs.FEW, "person -1 0 ! -1", "person 3 0 ! -1", "person 9 0 ! -1", "person min 0 ! -1",
            "person max 0 ! -1", "person 2 0 = 5");
        Runs.test(t, "4: \"-1\", with six", Runs.FULL, "person 5 0 = 99", "person 6 0 ! -1", "person 9 4 ! -1");
        Runs.test(t, "4: \"-2\"", Runs.FEW, "person 0 -1 ! -2", "person 0 6 ! -2", "person 0 min ! -2", "person 0 max ! -2",
            "person 0 5 = 1");
        Runs.test(t, "4: -1 ahead of -2", Runs.FEW, "person 3 6 ! -1", "person -1 -1 ! -1", "count 12 = 0");
        Runs.test(t, "4: how many he has READ, holds, owns: none, all ten", "comes 5 9 99", "person 0 3 = 0", "person 0 4 = 0",
            "person 0 5 = 0", "told b750a;b750b;b750c;b750d;b750e;b750f;b750g;b750h;b750i;b750j; = 10", "person 0 3 = 0",
            "person 0 4 = 10", "person 0 5 = 10", "weeks 10", "person 0 3 = 10", "weeks 1", "person 0 3 = 10");
        Runs.test(t, "4: what he holds is not what he owns", Runs.FEW, "lends 1 1", "person 0 4 = 0", "person 0 5 = 1",
            "person 1 4 = 2", "person 1 5 = 1", "reads 0 2", "person 0 3 = 1", "person 1 3 = 0");
    }

    private static void book(Checks t) {
        Runs.test(t, "5: \"-1\"", Runs.FEW, "book -1 0 ! -1", "book 3 0 ! -1", "book min 0 ! -1", "book max 0 ! -1",
            "book 2 0 = 3");
        Runs.test(t, "5: \"-1\", with ten", Runs.FULL, "book 9 0 = 2", "book 10 0 ! -1");
        Runs.test(t, "5: \"-2\"", Runs.FEW, "book 0 -1 ! -2", "book 0 8 ! -2", "book 0 min ! -2", "book 0 max ! -2",
            "book 0 7 = 1");
        Runs.test(t, "5: -1 ahead of -2", Runs.FEW, "book 3 8 ! -1", "book -1 -1 ! -1", "count 12 = 0");
        Runs.test(t, "5: READ by nobody, by the last, by all six", Runs.FULL, "book 3 4 = 0", "reads 5 3", "book 3 4 = 32",
            "reads 0 3", "reads 1 3", "reads 2 3", "reads 3 3", "reads 4 3", "book 3 4 = 63", "reads 5 3 = 0", "book 3 4 = 63");
    }

    private static void title(Checks t) {
        String[] titles = {"told b009a;b009zz;b009abz;b009zaza; = 4"};
        Runs.test(t, "6: \"-9 it ends ahead of that\"", titles, "title 0 0 = 0", "title 0 1 = -9", "title 1 1 = 25",
            "title 1 2 = -9", "title 2 2 = 25", "title 2 3 = -9", "title 3 3 = 0", "title 3 4 = -9", "title 3 5 = -9",
            "title 0 max = -9", "title 3 max = -9");
        Runs.test(t, "6: letters 0 .. 25, each in its place", titles, "title 3 0 = 25", "title 3 1 = 0", "title 3 2 = 25",
            "title 3 3 = 0", "title 2 0 = 0", "title 2 1 = 1");
        Runs.test(t, "6: \"-1\"", titles, "title -1 0 ! -1", "title 4 0 ! -1", "title min 0 ! -1", "title max 0 ! -1");
        Runs.test(t, "6: \"-4\"", titles, "title 0 -1 ! -4", "title 3 min ! -4");
        Runs.test(t, "6: -1 ahead of -4", titles, "title 4 -1 ! -1", "title -1 -1 ! -1", "count 14 = 0");
    }

    private static void comes(Checks t) {
        Runs.test(t, "7: the number, 0 .. 5", "comes 0 0 0 = 0", "comes 0 0 0 = 1", "comes 0 0 0 = 2", "comes 0 0 0 = 3",
            "comes 0 0 0 = 4", "comes 0 0 0 = 5");
        Runs.test(t, "7: \"-4 (any)\"", Runs.FEW, "comes -1 0 0 ! -4", "comes 0 -1 0 ! -4", "comes 0 0 -1 ! -4",
            "comes min 0 0 ! -4", "comes 0 min 0 ! -4", "comes 0 0 min ! -4", "comes 0 0 0 = 3", "person 3 0 = 0");
        Runs.test(t, "7: \"-6 (99; 9; 99\"", Runs.FEW, "comes 100 0 0 ! -6", "comes 0 10 0 ! -6", "comes 0 0 100 ! -6",
            "comes max 0 0 ! -6", "comes 0 max 0 ! -6", "comes 0 0 max ! -6", "comes 99 9 99 = 3", "person 3 0 = 99",
            "person 3 1 = 9", "person 3 2 = 99");
        Runs.test(t, "7: \"-6 (.. 6 there are)\"", Runs.FULL, "comes 0 0 0 ! -6", "comes 99 9 99 ! -6", "count 0 = 6");
        Runs.test(t, "7: -4 ahead of -6", Runs.FEW, "comes -1 10 100 ! -4", "comes 100 -1 100 ! -4", "comes 100 10 -1 ! -4",
            "count 16 = 0");
        Runs.test(t, "7: -4 ahead of -6, with six", Runs.FULL, "comes -1 0 0 ! -4", "comes 0 -1 0 ! -4", "comes 0 0 -1 ! -4");
    }

    private static void brings(Checks t) {
        Runs.test(t, "8: \"-2\"", Runs.FEW, "brings -1 0 9 5 ! -2", "brings 8 0 9 5 ! -2", "brings min 0 9 5 ! -2",
            "brings max 0 9 5 ! -2", "brings 7 0 9 5 = 3", "brings 0 0 9 6 = 4");
        Runs.test(t, "8: \"-4 (figure; letter)\"", Runs.FEW, "brings 0 -1 9 5 ! -4", "brings 0 0 9 -1 ! -4",
            "brings 0 min 9 5 ! -4", "brings 0 0 9 min ! -4", "brings 0 0 9 5 = 3", "book 3 1 = 0");
        Runs.test(t, "8: \"-6 (9; 25\"", Runs.FEW, "brings 0 10 9 5 ! -6", "brings 0 0 9 26 ! -6", "brings 0 max 9 5 ! -6",
            "brings 0 0 9 max ! -6", "brings 0 9 9 25 = 3", "book 3 1 = 9", "title 3 0 = 25", "title 3 1 = -9");
        Runs.test(t, "8: \"-6 (.. 10 there are)\"", Runs.FULL, "brings 0 0 9 20 ! -6", "count 1 = 10");
        Runs.test(t, "8: \"-1 (owner, or 9)\"", Runs.FEW, "brings 0 0 3 5 ! -1", "brings 0 0 8 5 ! -1", "brings 0 0 10 5 ! -1",
            "brings 0 0 -1 5 ! -1", "brings 0 0 min 5 ! -1", "brings 0 0 max 5 ! -1", "brings 0 0 2 5 = 3",
            "brings 0 0 9 6 = 4", "book 3 2 = 2", "book 4 2 = 9");
        Runs.test(t, "8: \"-3 there is one with that TITLE\"", Runs.FEW, "brings 0 0 9 0 ! -3", "brings 0 0 9 1 ! -3",
            "brings 0 0 9 2 ! -3", "brings 0 0 9 3 = 3", "brings 0 0 9 3 ! -3", "told b009zz;b009y; = 2", "brings 0 0 9 24 ! -3",
            "brings 0 0 9 25 = 6");
        Runs.test(t, "8: -2 ahead of all", Runs.FEW, "brings 8 -1 5 0 ! -2", "brings -1 10 5 26 ! -2", "count 12 = 2");
        Runs.test(t, "8: -4 ahead of -6, -1 and -3", Runs.FEW, "brings 0 -1 5 26 ! -4", "brings 0 10 5 -1 ! -4",
            "brings 0 -1 9 0 ! -4", "count 14 = 3");
        Runs.test(t, "8: -6 ahead of -1 and -3", Runs.FEW, "brings 0 10 5 0 ! -6", "brings 0 0 5 26 ! -6", "brings 0 10 9 0 ! -6",
            "count 16 = 3");
        Runs.test(t, "8: -6 ahead of -1 and -3, with ten", Runs.FULL, "brings 0 0 6 0 ! -6", "brings 0 0 9 0 ! -6",
            "brings 0 -1 6 0 ! -4", "brings 0 0 6 -1 ! -4", "brings 8 0 9 20 ! -2");
        Runs.test(t, "8: -1 ahead of -3", Runs.FEW, "brings 0 0 3 0 ! -1", "count 11 = 1");
    }

    private static void eats(Checks t) {
        Runs.test(t, "9: the old", Runs.FEW, "eats 0 0 = 20", "eats 0 99 = 0", "eats 0 99 = 99", "person 0 0 = 99",
            "person 1 0 = 10");
        Runs.test(t, "9: \"-1\"", Runs.FEW, "eats 3 5 ! -1", "eats -1 5 ! -1", "eats 9 5 ! -1", "eats min 5 ! -1", "eats max 5 ! -1");
        Runs.test(t, "9: \"-4\"", Runs.FEW, "eats 0 -1 ! -4", "eats 0 min ! -4", "eats 0 0 = 20");
        Runs.test(t, "9: \"-6 99\"", Runs.FEW, "eats 0 100 ! -6", "eats 0 max ! -6", "eats 0 99 = 20");
        Runs.test(t, "9: -1 ahead of -4 and -6", Runs.FEW, "eats 3 -1 ! -1", "eats 3 100 ! -1", "count 11 = 2");
        Runs.test(t, "9: what is refused, with eight to take back", Runs.FULL, "eats 0 100 ! -6", "eats 0 -1 ! -4", "eats 6 5 ! -1");
    }

    private static void reads(Checks t) {
        Runs.test(t, "10: \"1, or 0, if that was so\"", Runs.FEW, "reads 2 2 = 1", "reads 2 2 = 0", "reads 1 2 = 1",
            "reads 2 2 = 0", "book 2 4 = 6", "back = 3", "back = 2", "back = 1", "reads 2 2 = 0", "back = 1", "back = 0",
            "reads 2 2 = 1");
        Runs.test(t, "10: it is not given back, nor need he hold it", Runs.FEW, "lends 0 0", "reads 0 0 = 1", "book 0 3 = 0",
            "reads 0 2 = 1", "book 2 3 = 1");
        Runs.test(t, "10: \"-1 (either)\"", Runs.FEW, "reads 3 0 ! -1", "reads -1 0 ! -1", "reads 9 0 ! -1", "reads 0 3 ! -1",
            "reads 0 -1 ! -1", "reads min 0 ! -1", "reads 0 min ! -1", "reads max 0 ! -1", "reads 0 max ! -1", "reads 3 3 ! -1",
            "count 11 = 10");
        Runs.test(t, "10: what is refused, with eight to take back", Runs.FULL, "reads 6 0 ! -1", "reads 0 10 ! -1");
    }

    private static void lends(Checks t) {
        Runs.test(t, "11: the old; 9 the town", Runs.FEW, "lends 1 9 = 0", "lends 1 9 = 9", "lends 1 2 = 9", "lends 1 0 = 2",
            "book 1 3 = 0", "book 1 2 = 0");
        Runs.test(t, "11: \"-1 (either)\"", Runs.FEW, "lends 3 0 ! -1", "lends -1 0 ! -1", "lends 0 3 ! -1", "lends 0 -1 ! -1",
            "lends 0 8 ! -1", "lends 0 10 ! -1", "lends min 0 ! -1", "lends max 0 ! -1", "lends 0 min ! -1", "lends 0 max ! -1",
            "lends 3 9 ! -1", "lends 9 0 ! -1", "count 11 = 12");
        Runs.test(t, "11: what is refused, with eight to take back", Runs.FULL, "lends 10 0 ! -1", "lends 0 6 ! -1", "lends 9 5 = 4");
    }

    private static void buys(Checks t) {
        Runs.test(t, "12: what his PURSE is then; OWNER and HOLDER become him", Runs.FEW, "buys 0 0 = 44", "person 0 2 = 44",
            "book 0 2 = 0", "book 0 3 = 0");
        Runs.test(t, "12: also if another holds it", Runs.FEW, "lends 0 2", "buys 1 0 = 4", "book 0 2 = 1", "book 0 3 = 1");
        Runs.test(t, "12: \"-3 .. his PURSE is below it\"", "comes 0 0 5", "comes 0 0 6", "comes 0 0 7", "brings 0 5 9 0",
            "brings 0 5 9 1", "buys 0 0 ! -3", "buys 1 0 = 0", "buys 2 1 = 1", "person 0 2 = 5", "book 0 2 = 1");
        Runs.test(t, "12: for nothing, with nothing", "comes 0 0 0", "brings 7 9 9 0", "brings 5 0 9 1", "buys 0 0 = 0",
            "buys 0 1 = 0", "person 0 5 = 2", "brings 3 0 9 2", "buys 0 2 ! -3");
        Runs.test(t, "12: \"-3 the OWNER isn't the town\"", Runs.FEW, "buys 0 1 ! -3", "buys 0 2 ! -3", "lends 2 9",
            "buys 0 2 ! -3", "buys 0 0 = 44", "buys 0 0 ! -3", "buys 1 0 ! -3", "count 13 = 5");
        Runs.test(t, "12: \"-1 (either)\"", Runs.FEW, "buys 3 0 ! -1", "buys -1 0 ! -1", "buys 9 0 ! -1", "buys 0 3 ! -1",
            "buys 0 -1 ! -1", "buys min 0 ! -1", "buys max 0 ! -1", "buys 0 min ! -1", "buys 0 max ! -1");
        Runs.test(t, "12: -1 ahead of -3", Runs.FEW, "buys 3 1 ! -1", "buys 9 1 ! -1", "count 13 = 0");
        Runs.test(t, "12: what is refused, with eight to take back", Runs.FULL, "buys 4 0 ! -3", "buys 0 1 ! -3", "buys 6 0 ! -1",
            "buys 0 10 ! -1");
    }

    private static void step(Checks t) {
        Runs.test(t, "13: how many there are", "step 0 0 = 1", "step 7 99 = 2", "step 6 0 = 3", "step 5 0 = 4", "step 3 99 = 5",
            "step 4 99 = 6");
        Runs.test(t, "13: \"-2\"", Runs.FEW, "step -1 0 ! -2", "step 8 0 ! -2", "step min 0 ! -2", "step max 0 ! -2", "step 7 0 = 1");
        for (int step = 0; step < 8; step++) {
            Runs.test(t, "13: \"-4\" and \"-6 (99\", step " + step, Runs.FEW, "step " + step + " -1 ! -4",
                "step " + step + " min ! -4", "step " + step + " 100 ! -6", "step " + step + " max ! -6", "step " + step + " 0 = 1",
                "step " + step + " 99 = 2");
        }
        Runs.test(t, "13: \"-6 (.. 6 there are)\"", Runs.FULL, "count 3 = 6", "step 0 5 ! -6", "step 7 0 ! -6", "clearLaw = 6",
            "step 0 5 = 1");
        Runs.test(t, "13: -2 ahead of -4 and -6", Runs.FEW, "step 8 -1 ! -2", "step 8 100 ! -2", "step -1 -1 ! -2", "count 12 = 3");
        Runs.test(t, "13: -2 and -4 ahead of -6, with six", Runs.FULL, "step 8 0 ! -2", "step 0 -1 ! -4", "step 4 -1 ! -4",
            "step 4 100 ! -6");
        Runs.test(t, "13: 4 to 7, n is nothing to it", "comes 0 9 0", "comes 0 9 0", "brings 2 9 0 0", "reads 0 0", "reads 1 0",
            "step 4 99", "pan 0 1 0 = 36", "step 5 99", "pan 0 1 0 = 36", "step 6 99", "pan 0 1 0 = 18", "step 7 99",
            "pan 0 1 0 = 18", "weeks 1", "pan 0 1 0 = 19");
        Runs.test(t, "13: behind the others", "comes 0 9 0", "comes 0 9 0", "brings 2 9 0 0", "step 0 1", "step 6 0",
            "pan 0 1 0 = 9", "step 0 1", "pan 0 1 0 = 10");
    }

    private static void clearLaw(Checks t) {
        Runs.test(t, "14: how many it had: none", "clearLaw = 0", "clearLaw = 0", "count 3 = 0", "count 7 = 2");
        Runs.test(t, "14: how many it had: six", Runs.FULL, "clearLaw = 6", "count 3 = 0", "clearLaw = 0", "pan 0 1 9 = 0",
            "pan 0 1 5 = 8", "back = 7", "back = 6", "count 3 = 6", "pan 0 1 9 = 3");
    }

    private static void weeks(Checks t) {
        Runs.test(t, "15: \"-4 1\"", Runs.FEW, "weeks 0 ! -4", "weeks -1 ! -4", "weeks min ! -4", "weeks 1 = 1");
        Runs.test(t, "15: \"-6 (60\"", Runs.FEW, "weeks 61 ! -6", "weeks max ! -6", "weeks 60 = 60");
        Runs.test(t, "15: \"-6 (.. WEEK above 999)\"", Runs.FEW, Runs.LATE, "count 2 = 999", "weeks 1 ! -6", "weeks 60 ! -6",
            "weeks 0 ! -4", "back = 7", "weeks 40 ! -6", "weeks 39 = 999", "back = 7", "weeks 38 = 998", "weeks 2 ! -6",
            "weeks 1 = 999", "weeks max ! -6");
    }

    private static void back(Checks t) {
        Runs.test(t, "16: \"-3 none\"", Runs.FEW, "back ! -3", "eats 0 5", "back = 0", "back ! -3");
        Runs.test(t, "16: how many can still be", Runs.FEW, "eats 0 1", "eats 0 2", "eats 0 3", "count 7 = 3", "back = 2",
            "person 0 0 = 2", "back = 1", "person 0 0 = 1", "back = 0", "person 0 0 = 20", "back ! -3", "person 0 0 = 20");
        Runs.test(t, "16: 8 at most, older ones no more", Runs.FEW, "eats 0 1", "eats 0 2", "eats 0 3", "eats 0 4", "eats 0 5",
            "eats 0 6", "eats 0 7", "count 7 = 7", "eats 0 8", "count 7 = 8", "eats 0 9", "count 7 = 8", "eats 0 10",
            "count 7 = 8", "back = 7", "back = 6", "back = 5", "back = 4", "back = 3", "back = 2", "back = 1", "back = 0",
            "person 0 0 = 2", "back ! -3", "person 0 0 = 2");
        Runs.test(t, "16: just 8, all of them", Runs.FEW, "eats 0 1", "eats 0 2", "eats 0 3", "eats 0 4", "eats 0 5", "eats 0 6",
            "eats 0 7", "eats 0 8", "back = 7", "back = 6", "back = 5", "back = 4", "back = 3", "back = 2", "back = 1",
            "back = 0", "person 0 0 = 20");
        Runs.test(t, "16: more behind what was taken back", Runs.FEW, "eats 0 1", "eats 0 2", "back = 1", "eats 0 3", "count 7 = 2",
            "back = 1", "person 0 0 = 1", "back = 0", "person 0 0 = 20");
        Runs.test(t, "16: each that is not refused counts, also if all stays as it was", Runs.FEW, "eats 0 20 = 20", "count 7 = 1",
            "reads 0 0 = 1", "reads 0 0 = 0", "count 7 = 3", "lends 0 9 = 9", "count 7 = 4", "clearLaw = 0", "count 7 = 5",
            "weeks 1 = 1", "count 7 = 6", "step 0 0 = 1", "count 7 = 7", "buys 0 0 = 44", "count 7 = 8", "back = 7");
        Runs.test(t, "16: what is refused doesn't count", Runs.FEW, "eats 0 5", "eats 0 100 ! -6", "eats 3 5 ! -1", "reads 3 0 ! -1",
            "lends 0 3 ! -1", "buys 0 1 ! -3", "step 8 0 ! -2", "step 0 100 ! -6", "weeks 0 ! -4", "weeks 61 ! -6", "count 7 = 1",
            "back = 0", "person 0 0 = 20");
        Runs.test(t, "16: comes() leaves none", Runs.FEW, "eats 0 5", "eats 0 6", "comes 1 1 1 = 3", "count 7 = 0", "back ! -3",
            "person 0 0 = 6");
        Runs.test(t, "16: brings() leaves none", Runs.FEW, "eats 0 5", "brings 0 0 9 5 = 3", "count 7 = 0", "back ! -3",
            "person 0 0 = 5");
        Runs.test(t, "16: a TOWN without FAULT leaves none", Runs.FEW, "eats 0 5", "told l; = 1", "count 7 = 0", "back ! -3",
            "person 0 0 = 5", "eats 0 7", "told w01; = 1", "count 7 = 0");
        Runs.test(t, "16: restore() leaves none", Runs.FEW, "image = 0", "eats 0 5", "restore = 0", "count 7 = 0", "back ! -3",
            "person 0 0 = 20");
        Runs.test(t, "16: comes(), brings(), restore(), where they are refused, leave it", Runs.FEW, "eats 0 5", "comes 100 0 0 ! -6",
            "comes -1 0 0 ! -4", "brings 8 0 9 5 ! -2", "brings 0 -1 9 5 ! -4", "brings 0 0 9 26 ! -6", "brings 0 0 3 5 ! -1",
            "brings 0 0 9 0 ! -3", "restore ! -3", "count 7 = 1", "back = 0", "person 0 0 = 20");
        Runs.test(t, "16: a TOWN with a FAULT leaves it", Runs.FEW, "eats 0 5", "told x = -1000", "told w00; = -2000",
            "told p00000;w00; = -2007", "count 7 = 1", "back = 0", "person 0 0 = 20");
        Runs.test(t, "16: what others do can't be taken back", Runs.FEW, "eats 0 5", "row 5", "fed p0", "image = 0", "clear = 1",
            "row 7", "judge = 0", "count 7 = 1", "back = 0", "count 5 = 2", "count 6 = 0", "back ! -3");
        Runs.test(t, "16: an image lives on behind what is taken back", Runs.FEW, "eats 0 5", "image = 0", "back = 0",
            "person 0 0 = 20", "restore = 0", "person 0 0 = 5", "back ! -3");
        eachIsTakenBack(t);
    }

    private static void eachIsTakenBack(Checks t) {
        Runs.test(t, "16: eats()", Runs.FEW, "eats 0 5", "back = 0", "person 0 0 = 20");
        Runs.test(t, "16: reads()", Runs.FEW, "reads 0 0", "back = 0", "book 0 4 = 0", "person 0 3 = 0");
        Runs.test(t, "16: lends()", Runs.FEW, "lends 1 2", "back = 0", "book 1 3 = 0");
        Runs.test(t, "16: buys()", Runs.FEW, "lends 0 1", "buys 0 0 = 44", "back = 1", "person 0 2 = 50", "book 0 2 = 9",
            "book 0 3 = 1");
        Runs.test(t, "16: step()", Runs.FEW, "step 0 5", "step 6 0", "back = 1", "count 3 = 1", "pan 0 1 1 = 13", "back = 0",
            "count 3 = 0", "pan 0 1 1 = 8");
        Runs.test(t, "16: clearLaw(), and a step behind it", Runs.FEW, "step 0 5", "step 6 0", "clearLaw = 2", "step 1 1",
            "pan 0 1 1 = 7", "back = 3", "pan 0 1 1 = 8", "back = 2", "count 3 = 2", "pan 0 1 1 = 6");
        Runs.test(t, "16: weeks()", Runs.FEW, "lends 0 0", "weeks 60 = 60", "back = 1", "count 2 = 0", "person 0 0 = 20",
            "book 0 3 = 0", "sight 2 = 7");
    }
}
