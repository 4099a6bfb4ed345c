/** The boundary cases of the calls that ask: promises 9 to 36. */
public final class AskingBoundsTest extends Kit {
    /** t at 9 knows a, u at 200 knows nothing. */
    private static final String TWO = "fact a;fact b;place p bearing 9;place q bearing 200;person t at p knows a;"
        + "person u at q knows;";
    /** The same with two cocks of law 0 that turn at once. */
    private static final String BOTH = TWO + "cock 1 law 0 late 0;";
    private static final String SIX_FACTS = "fact a;fact b;fact c;fact d;fact e;fact f;";
    /** Six PEOPLE at 10, 20, .. 60 who know nothing. */
    private static final String SIX_PEOPLE = six(10, 20, 30, 40, 50, 60);

    public static void main(String[] args) {
        worldBounds();
        lieBounds();
        lieByLaw();
        pointsBounds();
        pointsLate();
        pointsAtTheLast();
        worldsBounds();
        sureBounds();
        sureOrNot();
        oddsBounds();
        lowestTerms();
        proofBounds();
        proofOfAll();
        fewerAheadOfLess();
        clashBounds();
        clashOfAll();
        nextAndFogBounds();
        nextAndFogEnds();
        sevenWays();
        sameBearing();
        learnsBounds();
        learnsEnds();
        learnsOrNot();
        judgedBounds();
        turnedAndRoundBounds();
        turnedAndRoundEnds();
        shorterWay();
        pointedBounds();
        pointedEnds();
        eachLookAndWatchOfItsCock();
        hiddenEach();
        hiddenBounds();
        hiddenByAll();
        hiddenByNone();
        offersByMinutes();
        secretBounds();
        secretEnds();
        secretTerms();
        sectorBounds();
        blindBounds();
        blindWidth();
        crowds();
        toldBounds();
        fewestBounds();
        fewestOfAll();
        personBounds();
        lookoutBounds();
        lookoutEnds();
        lookoutLeast();
        moveBounds();
        moveFirst();
        longestBounds();
        longestEnds();
        differBounds();
        end();
    }

    /** Six PEOPLE at these bearings. */
    private static String six(int... bearings) {
        StringBuilder s = new StringBuilder();
        for (int i = 0; i < 6; i++) {
            char c = (char) ('a' + i);
            s.append("place p").append(c).append(" bearing ").append(bearings[i]).append(';');
            s.append("person q").append(c).append(" at p").append(c).append(" knows;");
        }
        return s.toString();
    }

    /** t and u by turns from minute 0 on say what is never so. */
    private static LiarsCock turns(String parish, int n) {
        LiarsCock x = village(parish);
        for (int i = 0; i < n; i++) {
            say(x, i % 2, i, "0");
        }
        return x;
    }

    /** t lies in 0, u in 10, t in 20; cock 1 is 5 late. */
    private static LiarsCock day() {
        LiarsCock x = village(TWO + "cock 1 law 0 late 5;");
        say(x, 0, 0, "0");
        say(x, 1, 10, "0");
        say(x, 0, 20, "0");
        return x;
    }

    // ---- Promise 9

    private static void worldBounds() {
        String facts = "";
        for (int n = 0; n <= 6; n++) {
            LiarsCock x = village(facts);
            bounds(n + " facts: world", 0, (1 << n) - 1, w -> x.world(w));
            due("64 is none", x.world(64), NONE);
            facts += "fact " + (char) ('a' + n) + ";";
        }
        LiarsCock x = village(TWO + "common not (a and b);");
        say(x, 0, 3, "a");
        x.look(0, 2, 0, 0);
        due("COMMON, and CAN BE", x.world(1), 2);
        due("not COMMON", x.world(3), 0);
        x.look(0, 3, 9, 9);
        due("COMMON alone", x.world(1), 1);
        due("CAN BE", x.world(0), 2);
        due("not COMMON stays so", x.world(3), 0);
        x.look(0, 3, 8, 8);
        due("none CAN BE", x.world(0), 1);
    }

    // ---- Promise 10

    private static void lieBounds() {
        LiarsCock x = turns(TWO, 24);
        bounds("lie of", 0, 23, s -> x.lie(s, 0));
        bounds("lie in", 0, 3, w -> x.lie(23, w));
        outside("lie of what is not said", 0, NONE, s -> village(TWO).lie(s, 0));
        LiarsCock six = village(SIX_FACTS + "place p bearing 9;person t at p knows f;");
        say(six, 0, 0, "f");
        bounds("of 64 in", 0, 63, w -> six.lie(0, w));
        due("f in 32", six.lie(0, 32), 1);
        due("f in 31", six.lie(0, 31), 6);
        due("f in 63", six.lie(0, 63), 1);
    }

    /** Law 0: not SO in the WORLD; law 1: not SO in any COMMON WORLD in which what he knows is as in this one. */
    private static void lieByLaw() {
        LiarsCock x = village(TWO + "common a or b;");
        int[][] want = {{6, 1, 6, 1}, {2, 2, 1, 1}, {1, 6, 1, 6}, {2, 1, 2, 1}, {2, 2, 1, 1}, {6, 6, 6, 6}, {2, 1, 1, 1},
            {5, 6, 6, 6}};
        due("t: a", say(x, 0, 0, "a"), 0);
        due("t: b", say(x, 0, 0, "b"), 0);
        due("t: not a", say(x, 0, 0, "not a"), 0);
        due("u: a", say(x, 1, 0, "a"), 0);
        due("u: b", say(x, 1, 0, "b"), 0);
        due("u: 0", say(x, 1, 0, "0"), 0);
        due("u: what is common", say(x, 1, 0, "a or b"), 0);
        due("u: against what is common", say(x, 1, 0, "not (a or b)"), 0);
        for (int s = 0; s < 8; s++) {
            for (int w = 0; w < 4; w++) {
                due("saying " + s + " in " + w, x.lie(s, w), want[s][w]);
            }
        }
        x = village(TWO + "common not a;");
        say(x, 0, 0, "1");
        say(x, 1, 0, "1");
        due("t knows that no COMMON WORLD is so: a LIE by law 1", x.lie(0, 1), 1 + 4);
        due("u does not", x.lie(1, 1), 1);
        x = village(TWO + "common 0;");
        say(x, 1, 0, "1");
        due("nothing is COMMON", x.lie(0, 0), 1 + 4);
    }

    // ---- Promise 11

    private static void pointsBounds() {
        LiarsCock x = village(BOTH);
        say(x, 1, 0, "0");
        bounds("points, cock", 0, 1, c -> x.points(c, 0, 0));
        bounds("points in", 0, 1439, m -> x.points(0, m, 0));
        bounds("points in world", 0, 3, w -> x.points(0, 0, w));
        LiarsCock one = turns(TWO, 1);
        bounds("points, one cock", 0, 0, c -> one.points(c, 0, 0));
        due("nobody", village(TWO).points(0, 1439, 0), NONE);
    }

    /** late or more MINUTES ahead: late 0, 1, 60, up to 1439. */
    private static void pointsLate() {
        for (int late : new int[] {0, 1, 59, 60}) {
            LiarsCock x = village(TWO + "cock 0 law 0 late " + late + ";");
            say(x, 1, 5, "a");
            due("late " + late + ", one less", x.points(0, 4 + late, 0), NONE);
            due("late " + late, x.points(0, 5 + late, 0), 1);
            due("late " + late + ", the last", x.points(0, 1439, 0), 1);
            due("no LIE", x.points(0, 5 + late, 1), NONE);
            say(x, 0, 1439 - late, "b");
            due("not yet", x.points(0, 1438, 0), 1);
            due("in the last MINUTE", x.points(0, 1439, 0), 0);
            if (late > 0) {
                say(x, 1, 1440 - late, "b");
                due("behind the last MINUTE", x.points(0, 1439, 0), 0);
            }
        }
    }

    /** The last LIE: of one MINUTE the last said; what is no LIE does not count. */
    private static void pointsAtTheLast() {
        LiarsCock x = village(TWO);
        say(x, 0, 7, "0");
        say(x, 1, 7, "0");
        due("the last of a MINUTE", x.points(0, 7, 0), 1);
        say(x, 0, 7, "a");
        due("the last of a MINUTE, in 0", x.points(0, 7, 0), 0);
        due("the last of a MINUTE, in 1", x.points(0, 7, 1), 1);
        x.say(0, 7);
        due("a QUESTION does not count", x.points(0, 7, 1), 1);
        for (int i = 4; i < 24; i++) {
            say(x, 0, 7, i == 23 ? "b" : "1");
        }
        due("what is so does not count", x.points(0, 7, 3), 1);
        due("the 24th", x.points(0, 7, 1), 0);
        due("a MINUTE before", x.points(0, 6, 0), NONE);
    }

    // ---- Promise 12

    private static void worldsBounds() {
        LiarsCock x = village(SIX_FACTS + "common f;");
        bounds("worlds", NONE, 5, f -> x.worlds(f));
        due("all", x.worlds(NONE), 32);
        due("a", x.worlds(0), 16);
        due("f", x.worlds(5), 32);
        LiarsCock none = new LiarsCock();
        bounds("worlds, no FACT", NONE, NONE, f -> none.worlds(f));
        LiarsCock nothing = village(TWO + "common 0;");
        due("none CAN BE", nothing.worlds(NONE), 0);
        due("none CAN BE", nothing.worlds(0), 0);
        due("no FACT", nothing.worlds(2), NONE);
        LiarsCock all = village(SIX_FACTS);
        due("64", all.worlds(NONE), 64);
        due("32", all.worlds(5), 32);
    }

    // ---- Promises 13, 14

    private static void sureBounds() {
        LiarsCock x = village(SIX_FACTS + "place p bearing 9;person t at p knows;");
        bounds("sureFact", 0, 5, f -> x.sureFact(f));
        outside("sureFact, no FACT", 0, NONE, f -> new LiarsCock().sureFact(f));
        LiarsCock said = turns(TWO, 24);
        bounds("sure", 0, 23, s -> said.sure(s));
        outside("sure, nothing said", 0, NONE, s -> village(TWO).sure(s));
        LiarsCock nothing = village(TWO + "common 0;");
        due("no WORLD CAN BE", nothing.sureFact(1), 3);
        due("no FACT", nothing.sureFact(2), NONE);
        say(nothing, 0, 0, "1");
        due("no WORLD CAN BE", nothing.sure(0), 3);
        due("no SAYING", nothing.sure(1), NONE);
    }

    private static void sureOrNot() {
        LiarsCock x = village(TWO + "common a or b;");
        say(x, 0, 0, "a or b");
        say(x, 0, 0, "not a and not b");
        say(x, 0, 0, "a");
        x.say(0, 0);
        say(x, 0, 0, "7");
        int[] want = {1, 0, 2, 0, 1};
        for (int s = 0; s < 5; s++) {
            due("sure " + s, x.sure(s), want[s]);
        }
        due("OPEN", x.sureFact(0), 2);
        x = village("fact a;fact b;common a and not b;");
        due("so in all", x.sureFact(0), 1);
        due("so in none", x.sureFact(1), 0);
    }

    // ---- Promise 15

    private static void oddsBounds() {
        LiarsCock x = village(SIX_FACTS);
        bounds("odds of", 0, 5, f -> x.odds(f, 0));
        bounds("odds, what", 0, 1, what -> x.odds(0, what));
        outside("odds, no FACT", 0, NONE, f -> new LiarsCock().odds(f, 1));
        LiarsCock nothing = village(TWO + "common 0;");
        due("no WORLD CAN BE", nothing.odds(0, 0), NONE);
        due("no WORLD CAN BE", nothing.odds(0, 1), NONE);
        LiarsCock never = village("fact a chance 0;fact b;common a;");
        due("all weights are 0", never.odds(0, 0), NONE);
        due("all weights are 0", never.odds(1, 1), NONE);
        LiarsCock ever = village("fact a chance 10;fact b;common not a;");
        due("all weights are 0", ever.odds(0, 0), NONE);
    }

    private static void odds(String text, int fact, long above, long below) {
        LiarsCock x = village(text);
        due("above, " + text, x.odds(fact, 0), above);
        due("below, " + text, x.odds(fact, 1), below);
    }

    private static void lowestTerms() {
        odds("fact a chance 0;", 0, 0, 1);
        odds("fact a chance 10;", 0, 1, 1);
        odds("fact a;", 0, 1, 2);
        odds("fact a chance 4;", 0, 2, 5);
        odds("fact a chance 3;", 0, 3, 10);
        odds("fact a chance 1;fact b chance 1;common a = b;", 0, 1, 82);
        odds("fact a chance 10;fact b chance 10;fact c chance 10;fact d chance 10;fact e chance 10;fact f chance 9;", 5,
            9, 10);
        odds("fact a chance 3;fact b chance 3;fact c chance 3;fact d chance 3;fact e chance 3;fact f chance 3;"
            + "common a+b+c+d+e+f=0 or (a+b+c+d+e+f=6);", 5, 729, 118378);
        odds("fact a chance 0;fact b;common a or b;", 0, 0, 1);
        odds("fact a chance 0;fact b;common a or b;", 1, 1, 1);
        odds("fact a;fact b;common not a;", 0, 0, 1);
    }

    // ---- Promises 16, 17

    private static void proofBounds() {
        LiarsCock x = turns(TWO, 24);
        bounds("proof of", 0, 23, s -> x.proof(s, 0));
        bounds("proof, what", 0, 1, what -> x.proof(0, what));
        due("without a LOOK", x.proof(0, 0), 0);
        due("without a LOOK", x.proof(0, 1), 0);
        LiarsCock y = village(TWO);
        due("nothing said", y.proof(0, 0), NONE);
        say(y, 0, 5, "a");
        due("OPEN", y.proof(0, 0), NONE);
        due("OPEN", y.proof(0, 1), NONE);
        y.look(0, 4, 0, 0);
        y.look(0, 5, 9, 9);
        y.look(0, 6, 9, 9);
        due("SURE: one", y.proof(0, 0), 1);
        due("SURE: the least", y.proof(0, 1), 2);
        y.look(0, 6, 0, 0);
        due("no WORLD CAN BE", y.proof(0, 0), NONE);
        due("no WORLD CAN BE", y.proof(0, 1), NONE);
    }

    /** t says in 2 * i that it is WORLD i, and 12 LOOKS show that he lied each time; u ends what t began. */
    private static LiarsCock twelve(String common, String last) {
        LiarsCock x = village("fact a;fact b;fact c;fact d;place p bearing 9;place q bearing 200;person t at p knows;"
            + "person u at q knows;" + common);
        for (int i = 0; i < 12; i++) {
            due("t", say(x, 0, 2 * i, "a+2*b+4*c+8*d=" + i), 0);
            due("u", say(x, 1, 2 * i + 1, i == 11 ? last : "0"), 0);
        }
        for (int i = 0; i < 12; i++) {
            due("look", x.look(0, 2 * i, 9, 9), i);
        }
        return x;
    }

    /** All of 12 LOOKS. */
    private static void proofOfAll() {
        LiarsCock x = twelve("", "c and d");
        due("4 WORLDS are left", x.worlds(NONE), 4);
        due("c and d", x.sure(23), 1);
        due("by all", x.proof(23, 0), 12);
        due("by all", x.proof(23, 1), 4095);
        for (int i = 0; i < 12; i++) {
            due("not WORLD " + i, x.proof(2 * i, 0), 1);
            due("not WORLD " + i, x.proof(2 * i, 1), 1 << i);
        }
        due("0", x.proof(1, 1), 0);
        x = twelve("", "not c or not d");
        due("not so", x.sure(23), 0);
        due("not so by all", x.proof(23, 1), 4095);
    }

    private static void clashBounds() {
        LiarsCock x = village(TWO);
        due("WORLDS CAN BE", x.clash(0), NONE);
        due("WORLDS CAN BE", x.clash(1), NONE);
        say(x, 0, 5, "0");
        x.look(0, 5, 9, 9);
        due("WORLDS CAN BE", x.clash(0), NONE);
        x.look(0, 5, 10, 8);
        x.look(0, 5, 0, 0);
        bounds("clash", 0, 1, what -> x.clash(what));
        due("one", x.clash(0), 1);
        due("the least", x.clash(1), 2);
        LiarsCock y = village(TWO + "common 0;");
        due("no LOOK", y.clash(0), 0);
        due("no LOOK", y.clash(1), 0);
        y.look(0, 0, 5, 5);
        due("it needs none", y.clash(0), 0);
    }

    private static void clashOfAll() {
        LiarsCock x = twelve("common not (c and d);", "0");
        due("all", x.clash(0), 12);
        due("all", x.clash(1), 4095);
        x = twelve("common not c and not d;", "0");
        due("the first four", x.clash(0), 4);
        due("the first four", x.clash(1), 15);
        x = twelve("common c and not d and not a;", "0");
        due("of WORLDS 4 and 6", x.clash(1), 16 + 64);
    }

    /** The fewest, of equal ones the least as bits: one of 4 is fewer than both of 3. */
    private static void fewerAheadOfLess() {
        LiarsCock x = village(TWO + "place r bearing 300;person v at r knows;");
        say(x, 0, 5, "a");
        say(x, 2, 10, "0");
        say(x, 0, 15, "b");
        say(x, 2, 16, "0");
        say(x, 1, 20, "a or b");
        x.look(0, 5, 9, 9);
        x.look(0, 15, 9, 9);
        due("PROOF by two", x.proof(4, 1), 3);
        x.look(0, 20, 200, 200);
        due("PROOF by one", x.proof(4, 0), 1);
        due("PROOF by one", x.proof(4, 1), 4);
        LiarsCock y = village(TWO + "common a or b;place r bearing 300;person v at r knows;");
        say(y, 0, 5, "a");
        say(y, 2, 10, "0");
        say(y, 0, 15, "b");
        y.look(0, 5, 9, 9);
        y.look(0, 15, 9, 9);
        due("CLASH of two", y.clash(1), 3);
        y.look(0, 15, 1, 1);
        due("CLASH of one", y.clash(0), 1);
        due("CLASH of one", y.clash(1), 4);
        LiarsCock z = village(TWO);
        z.truth(1);
        say(z, 0, 5, "not a");
        z.watch(0, 7);
        offer(z, 1, 6, "not a");
        offer(z, 1, 6, "a");
        due("HIDE by two", z.hide(0, 1), 3);
        offer(z, 1, 6, "0");
        due("HIDE by one", z.hide(0, 0), 1);
        due("HIDE by one", z.hide(0, 1), 4);
        LiarsCock w = village("fact a;fact b;fact c;common c = a * b;place p bearing 0;person t at p knows a;"
            + "person u at p knows b;person v at p knows c;");
        w.truth(7);
        due("FEWEST: both tell c", w.told(3), 7);
        due("FEWEST by one", w.fewest(2, 0), 1);
        due("FEWEST by one", w.fewest(2, 1), 4);
    }

    // ---- Promises 18, 19

    private static void nextAndFogBounds() {
        LiarsCock x = village(BOTH);
        bounds("next of", 0, 1, c -> x.next(c, 0, 5, 0));
        bounds("next from", 0, 1439, from -> x.next(0, from, 1439, 0));
        bounds("next to", 0, 1439, to -> x.next(0, 0, to, 0));
        bounds("next, what", 0, 1, what -> x.next(0, 0, 5, what));
        bounds("fog of", 0, 1, c -> x.fog(c, 0, 5, 0));
        bounds("fog from", 0, 1439, from -> x.fog(0, from, 1439, 0));
        bounds("fog to", 0, 1439, to -> x.fog(0, 0, to, 0));
        bounds("fog, what", 0, 1, what -> x.fog(0, 0, 5, what));
        due("next, back", x.next(0, 6, 5, 0), NONE);
        due("fog, back", x.fog(0, 6, 5, 0), NONE);
        due("no cock 1", village(TWO).next(1, 0, 5, 0), NONE);
        due("no cock 1", village(TWO).fog(1, 0, 5, 0), NONE);
        LiarsCock nothing = village(TWO + "common 0;");
        for (int what = 0; what < 2; what++) {
            due("no WORLD CAN BE", nothing.next(0, 0, 5, what), NONE);
            due("no WORLD CAN BE", nothing.fog(0, 0, 5, what), NONE);
        }
    }

    /** {from, to, the MINUTE, WORLDS left at the worst, bearings}. */
    private static void nextAndFogEnds() {
        LiarsCock x = village(TWO + "common a or b;cock 1 law 0 late 60;");
        say(x, 0, 20, "not a or not b");
        say(x, 1, 30, "b");
        say(x, 0, 1380, "not b");
        int[][] want = {{0, 1439, 30, 1, 3}, {0, 29, 20, 2, 2}, {0, 19, 0, 3, 1}, {0, 20, 20, 2, 2}, {20, 20, 20, 2, 2}, {19, 19, 19, 3, 1},
            {21, 29, 21, 2, 2}, {0, 0, 0, 3, 1}, {1439, 1439, 1439, 2, 2}, {5, 19, 5, 3, 1},
            {5, 1439, 30, 1, 3}, {1, 25, 20, 2, 2}, {20, 30, 30, 1, 3}, {31, 1439, 31, 1, 3}};
        for (int[] w : want) {
            due("next " + w[0] + " .. " + w[1], x.next(0, w[0], w[1], 0), w[2]);
            due("left " + w[0] + " .. " + w[1], x.next(0, w[0], w[1], 1), w[3]);
            due("fog " + w[0] + " .. " + w[1], x.fog(0, w[0], w[1], 1), w[4]);
        }
        int[][] late = {{0, 79, 0, 3, 1}, {30, 80, 80, 2, 2}, {80, 89, 80, 2, 2}, {0, 1439, 90, 1, 3}, {30, 30, 30, 3, 1},
            {1439, 1439, 1439, 1, 3}};
        for (int[] w : late) {
            due("60 late, next " + w[0] + " .. " + w[1], x.next(1, w[0], w[1], 0), w[2]);
            due("60 late, left " + w[0] + " .. " + w[1], x.next(1, w[0], w[1], 1), w[3]);
            due("60 late, fog in " + w[0] + " .. " + w[1], x.fog(1, w[0], w[1], 0), w[2]);
            due("60 late, fog " + w[0] + " .. " + w[1], x.fog(1, w[0], w[1], 1), w[4]);
        }
        due("fog 0 .. 1439", x.fog(0, 0, 1439, 0), 30);
        due("three bearings in 30", x.fog(0, 30, 30, 1), 3);
    }

    /** Six PEOPLE and nobody. */
    private static void sevenWays() {
        LiarsCock x = village("fact a;fact b;fact c;" + SIX_PEOPLE);
        for (int i = 0; i < 6; i++) {
            say(x, i, i, "not (a+2*b+4*c=" + i + ")");
        }
        for (int m = 0; m < 6; m++) {
            due("fog up to " + m, x.fog(0, 0, m, 1), m + 2);
            due("fog up to " + m, x.fog(0, 0, m, 0), m);
            due("next up to " + m, x.next(0, 0, m, 1), 7 - m);
            due("next up to " + m, x.next(0, 0, m, 0), m);
        }
        due("in the last MINUTE", x.fog(0, 1439, 1439, 1), 7);
        due("in the last MINUTE", x.next(0, 1439, 1439, 1), 2);
        due("the first of equal ones", x.fog(0, 0, 1439, 0), 5);
    }

    private static void sameBearing() {
        LiarsCock x = village("fact a;fact b;" + six(0, 7, 7, 0, 0, 0));
        say(x, 0, 5, "a");
        due("0 is where nobody is", x.fog(0, 0, 1439, 1), 1);
        due("0 is where nobody is", x.next(0, 0, 1439, 1), 4);
        say(x, 1, 6, "b");
        say(x, 2, 7, "not b");
        due("one by two", x.fog(0, 0, 1439, 0), 6);
        due("two at the same", x.fog(0, 7, 7, 1), 1);
        due("two at the same", x.next(0, 7, 7, 1), 4);
    }

    // ---- Promise 20

    private static void learnsBounds() {
        LiarsCock x = day();
        bounds("learns, person", 0, 1, p -> x.learns(p, 0, true, 20, 0));
        bounds("learns, fact", 0, 1, f -> x.learns(0, f, true, 20, 0));
        bounds("learns, minute", 20, 1439, m -> x.learns(0, 0, true, m, 0));
        bounds("learns, minute with late 5", 20, 1434, m -> x.learns(0, 0, false, m, 1));
        bounds("learns, cock", 0, 1, c -> x.learns(0, 0, true, 20, c));
        bounds("learns, nothing said", 0, 1439, m -> village(TWO).learns(0, 0, true, m, 0));
        bounds("learns, one cock", 0, 0, c -> village(TWO).learns(0, 0, true, 0, c));
        outside("learns, nobody", 0, NONE, p -> village("fact a;").learns(p, 0, true, 0, 0));
        outside("learns, no FACT", 0, NONE, f -> village("place p bearing 1;person t at p knows;").learns(0, f, true, 0, 0));
        refused("learns ahead of the last SAYING", () -> day(), NONE, y -> y.learns(0, 0, true, 19, 0));
        refused("learns", () -> day(), 1, y -> y.learns(0, 0, true, 20, 0));
    }

    /** No WORLD; late behind MINUTE 1439. */
    private static void learnsEnds() {
        LiarsCock x = village(TWO + "common not a;");
        x.truth(1);
        due("t knows that no COMMON WORLD is so", x.learns(0, 1, true, 0, 0), NONE);
        due("u does not", x.learns(1, 1, true, 0, 0), 1);
        x.look(0, 0, 1, 1);
        due("no WORLD CAN BE", x.learns(1, 1, true, 0, 0), NONE);
        for (int late : new int[] {0, 1, 60}) {
            LiarsCock y = village(TWO + "cock 0 law 0 late " + late + ";");
            LiarsCock z = village(TWO + "cock 1 law 0 late " + late + ";");
            due("cock 1, late " + late, z.learns(1, 1, true, 1439 - late, 1), 1);
            due("late " + late, y.learns(1, 1, true, 1439 - late, 0), 1);
            due("late " + late + ", one more", y.learns(1, 1, true, 1440 - late, 0), NONE);
        }
    }

    private static void learnsOrNot() {
        LiarsCock x = village(TWO + "cock 1 law 1 late 0;place z bearing 0;person v at z knows;");
        due("by a cock of law 0", x.learns(1, 1, true, 0, 0), 1);
        due("by not so", x.learns(1, 1, false, 0, 0), 1);
        due("the first FACT", x.learns(1, 0, true, 0, 0), 1);
        due("the first FACT by not so", x.learns(1, 0, false, 0, 0), 1);
        due("not by law 1", x.learns(1, 1, true, 0, 1), 0);
        due("known", x.learns(0, 0, true, 0, 1), 1);
        due("who is where nobody is", x.learns(2, 1, true, 0, 0), 0);
        say(x, 1, 5, "0");
        due("who is pointed at already", x.learns(1, 1, true, 5, 0), 0);
        due("another one", x.learns(0, 1, true, 5, 0), 1);
        due("at 0 is another one now", x.learns(2, 1, true, 5, 0), 1);
        for (int i = 1; i < 24; i++) {
            say(x, 1, 5, "0");
        }
        due("behind 24 SAYINGS", x.learns(0, 1, true, 5, 0), 1);
        due("they stay 24", x.count(5), 24);
    }

    // ---- Promise 21

    private static void judgedBounds() {
        LiarsCock x = turns(TWO, 1);
        due("no LOOK", x.judged(), NONE);
        for (int i = 0; i < 11; i++) {
            x.look(0, 0, 9, 9);
        }
        due("all are so", x.judged(), NONE);
        x.look(0, 0, 8, 8);
        due("the 12th is not", x.judged(), 11);
        LiarsCock y = turns(TWO, 1);
        y.look(0, 0, 8, 8);
        y.look(0, 0, 7, 7);
        due("the first", y.judged(), 0);
        LiarsCock z = village(TWO + "common 0;");
        z.look(0, 0, 0, 0);
        due("so by a TRUTH that is not COMMON", z.judged(), NONE);
    }

    // ---- Promises 22, 24

    private static void turnedAndRoundBounds() {
        LiarsCock x = day();
        bounds("turned, cock", 0, 1, c -> x.turned(c, 5));
        bounds("turned, minute", 0, 1439, m -> x.turned(0, m));
        bounds("round, cock", 0, 1, c -> x.round(c, 5));
        bounds("round, minute", 0, 1439, m -> x.round(0, m));
        bounds("turned, one cock", 0, 0, c -> village(TWO).turned(c, 0));
        bounds("round, one cock", 0, 0, c -> village(TWO).round(c, 0));
        int[][] want = {{0, 1, 9}, {9, 1, 9}, {10, 2, 9 + 169}, {19, 2, 178}, {20, 3, 178 + 169}, {1439, 3, 347}};
        for (int[] w : want) {
            due("turned up to " + w[0], x.turned(0, w[0]), w[1]);
            due("round up to " + w[0], x.round(0, w[0]), w[2]);
            due("5 late, turned", w[0] + 5 > 1439 ? w[1] : x.turned(1, w[0] + 5), w[1]);
            due("5 late, round", w[0] + 5 > 1439 ? w[2] : x.round(1, w[0] + 5), w[2]);
        }
        due("5 late", x.turned(1, 4), 0);
        due("5 late", x.round(1, 4), 0);
    }

    private static void turnedAndRoundEnds() {
        LiarsCock x = village(TWO + "cock 1 law 0 late 1;");
        due("nothing said", x.turned(0, 1439), 0);
        due("nothing said", x.round(0, 1439), 0);
        say(x, 0, 1438, "0");
        due("one less", x.turned(0, 1437), 0);
        due("1438", x.turned(0, 1438), 1);
        due("late 1, one less", x.turned(1, 1438), 0);
        due("late 1", x.turned(1, 1439), 1);
        say(x, 1, 1439, "0");
        due("1439", x.turned(0, 1439), 2);
        due("1439", x.round(0, 1439), 178);
        due("late 1: behind the last MINUTE", x.turned(1, 1439), 1);
        due("late 1: behind the last MINUTE", x.round(1, 1439), 9);
        LiarsCock y = turns(TWO, 24);
        due("24 turns", y.turned(0, 23), 24);
        due("23 turns", y.turned(0, 22), 23);
        due("24 turns", y.round(0, 23), 9 + 23 * 169);
        LiarsCock z = village(TWO);
        say(z, 1, 5, "0");
        say(z, 0, 5, "0");
        say(z, 0, 6, "0");
        due("once in a MINUTE", z.turned(0, 5), 1);
        due("the last of a MINUTE", z.round(0, 5), 9);
        due("the same one again", z.turned(0, 6), 1);
    }

    private static void shorterWay() {
        int[][] want = {{0, 0}, {1, 1}, {179, 179}, {180, 180}, {181, 179}, {359, 1}};
        for (int[] w : want) {
            LiarsCock x = village("place p bearing " + w[0] + ";person t at p knows;");
            say(x, 0, 0, "0");
            due("from 0 to " + w[0], x.round(0, 0), w[1]);
        }
        int[][] pairs = {{350, 10, 20}, {10, 350, 20}, {90, 270, 180}, {270, 90, 180}, {90, 271, 179}, {359, 180, 179},
            {359, 179, 180}, {359, 178, 179}, {5, 5, 0}};
        for (int[] p : pairs) {
            LiarsCock x = village("place p bearing " + p[0] + ";place q bearing " + p[1]
                + ";person t at p knows;person u at q knows;");
            say(x, 0, 0, "0");
            say(x, 1, 1, "0");
            due("from " + p[0] + " to " + p[1], x.round(0, 1) - x.round(0, 0), p[2]);
            due("a turn, even at the same bearing", x.turned(0, 1), 2);
        }
    }

    // ---- Promise 23

    private static void pointedBounds() {
        LiarsCock x = day();
        bounds("pointed, cock", 0, 1, c -> x.pointed(c, 0, 0, 9));
        bounds("pointed, person", NONE, 1, p -> x.pointed(0, p, 0, 9));
        bounds("pointed, from", 0, 1439, from -> x.pointed(0, 0, from, 1439));
        bounds("pointed, to", 0, 1439, to -> x.pointed(0, 0, 0, to));
        bounds("pointed, one cock", 0, 0, c -> village(TWO).pointed(c, 0, 0, 9));
        bounds("pointed, nobody there", NONE, NONE, p -> new LiarsCock().pointed(0, p, 0, 9));
        due("back", x.pointed(0, 0, 10, 9), NONE);
    }

    /** Both MINUTES too: {person, from, to, how many}. */
    private static void pointedEnds() {
        LiarsCock x = day();
        int[][] want = {{0, 0, 0, 1}, {0, 0, 9, 10}, {0, 0, 10, 10}, {0, 9, 9, 1}, {0, 10, 10, 0}, {1, 10, 10, 1},
            {1, 9, 20, 10}, {1, 19, 19, 1}, {1, 20, 20, 0}, {0, 20, 20, 1}, {0, 0, 1439, 1430}, {1, 0, 1439, 10},
            {NONE, 0, 1439, 0}, {0, 1439, 1439, 1}, {0, 19, 20, 1}};
        for (int[] w : want) {
            due("at " + w[0] + " from " + w[1] + " to " + w[2], x.pointed(0, w[0], w[1], w[2]), w[3]);
        }
        due("5 late: at nobody", x.pointed(1, NONE, 0, 1439), 5);
        due("5 late: at nobody", x.pointed(1, NONE, 4, 5), 1);
        due("5 late: at t", x.pointed(1, 0, 0, 1439), 1425);
        LiarsCock y = village(TWO);
        due("all day at nobody", y.pointed(0, NONE, 0, 1439), 1440);
        say(y, 0, 1439, "0");
        due("but the last MINUTE", y.pointed(0, NONE, 0, 1439), 1439);
        due("the last MINUTE", y.pointed(0, 0, 0, 1439), 1);
    }

    // ---- Promises 25, 26

    /** LOOKS and WATCHES are of the cock that is told, and of its MINUTE; a MARK holds them so. */
    private static void eachLookAndWatchOfItsCock() {
        LiarsCock x = day();
        x.look(0, 4, 9, 9);
        x.look(1, 4, 0, 0);
        x.look(1, 5, 9, 9);
        x.look(0, 14, 200, 200);
        x.look(1, 14, 9, 9);
        due("all fit", x.worlds(NONE), 4);
        due("all are so", x.judged(), NONE);
        x.mark(0, false);
        x.mark(0, true);
        due("all fit behind the MARK", x.worlds(NONE), 4);
        x.look(1, 15, 9, 9);
        due("cock 1 turned", x.judged(), 5);
        LiarsCock y = village(TWO + "cock 1 law 0 late 5;");
        y.truth(1);
        say(y, 0, 5, "not a");
        y.watch(1, 9);
        due("cock 1 sees nothing yet", y.hidden(0, 0), 1);
        y.mark(0, false);
        y.mark(0, true);
        due("nor behind the MARK", y.hidden(0, 0), 1);
        y.watch(1, 10);
        due("it does now", y.hidden(0, 0), 0);
        LiarsCock z = village(TWO + "cock 1 law 1 late 0;");
        z.truth(1);
        say(z, 1, 5, "not a");
        z.watch(1, 5);
        due("no LIE of u by law 1", z.hidden(0, 0), 1);
        z.watch(0, 5);
        due("but by law 0", z.hidden(0, 0), 0);
    }

    /** Each SAYING by itself: the first is a LIE that is seen, the second is so, the third a LIE that is not seen. */
    private static void hiddenEach() {
        LiarsCock x = village(TWO);
        x.truth(1);
        say(x, 0, 5, "not a");
        say(x, 1, 10, "1");
        say(x, 0, 15, "b");
        x.watch(0, 14);
        int[] want = {0, NONE, 1};
        for (int i = 0; i < 3; i++) {
            due("hidden " + i, x.hidden(i, 0), want[i]);
            due("hide " + i, x.hide(i, 0), want[i] == 1 ? 0 : NONE);
        }
        offer(x, 1, 6, "not a");
        offer(x, 1, 6, "a");
        offer(x, 1, 6, "not a");
        offer(x, 1, 6, "a");
        due("of two by two the least as bits", x.hide(0, 0), 2);
        due("of two by two the least as bits", x.hide(0, 1), 3);
        due("all four, too", x.hidden(0, 15), 1);
    }

    private static void hiddenBounds() {
        LiarsCock x = turns(TWO, 24);
        bounds("hidden", 0, 23, s -> x.hidden(s, 0));
        bounds("hidden, no OFFER", 0, 0, set -> x.hidden(0, set));
        for (int i = 1; i <= 6; i++) {
            offer(x, 0, 0, "a");
            bounds("hidden, OFFERS " + i, 0, (1 << i) - 1, set -> x.hidden(0, set));
        }
        due("said against all: never hidden", x.hide(0, 0), NONE);
        LiarsCock y = village(TWO);
        say(y, 0, 0, "a");
        bounds("hide", 0, 0, s -> y.hide(s, 0));
        bounds("hide, what", 0, 1, what -> y.hide(0, what));
        y.truth(1);
        due("no LIE in the TRUTH", y.hidden(0, 0), NONE);
        due("no LIE in the TRUTH", y.hide(0, 0), NONE);
        due("no LIE in the TRUTH", y.hide(0, 1), NONE);
        LiarsCock z = village(TWO + "cock 0 law 1 late 0;cock 1 law 0 late 0;");
        say(z, 1, 0, "a");
        due("no LIE by cock 0's law, but by cock 1's", z.hidden(0, 0), NONE);
        refused("hidden by no set", () -> full(), NONE, a -> a.hidden(0, 64));
        refused("hide", () -> full(), 6, a -> a.hide(0, 0));
    }

    /** Each of three WATCHES needs two OFFERS: one by which it points at u by the TRUTH, one by which else. */
    private static LiarsCock full() {
        LiarsCock x = village(TWO + "place r bearing 300;person v at r knows;");
        x.truth(1);
        for (int i = 0; i < 3; i++) {
            say(x, 0, 10 * i, "not a");
            x.watch(0, 10 * i + 5);
            offer(x, 1, 10 * i + 1, "not a");
            offer(x, 1, 10 * i + 5, "a");
            say(x, 2, 10 * i + 9, "0");
        }
        return x;
    }

    private static void hiddenByAll() {
        LiarsCock x = full();
        for (int set = 0; set < 63; set++) {
            due("hidden by " + set, x.hidden(0, set), 0);
        }
        due("hidden by all six", x.hidden(0, 63), 1);
        due("six", x.hide(0, 0), 6);
        due("all", x.hide(0, 1), 63);
        due("what is never so is not", x.hide(1, 0), NONE);
        x.watch(0, 29);
        due("all see v", x.hide(0, 1), 63);
        due("no 5th WATCH", x.watch(0, 0), NONE);
    }

    private static void hiddenByNone() {
        LiarsCock x = village(TWO);
        x.truth(1);
        say(x, 0, 5, "not a");
        due("without a WATCH it takes none", x.hide(0, 0), 0);
        due("without a WATCH it takes none", x.hide(0, 1), 0);
        x.watch(0, 4);
        due("a WATCH ahead of it sees nothing", x.hide(0, 1), 0);
        offer(x, 0, 4, "0");
        offer(x, 1, 5, "0");
        offer(x, 1, 5, "0");
        due("still none", x.hide(0, 1), 0);
        x.watch(0, 5);
        due("by t ahead of it, too", x.hidden(0, 1), 1);
        due("the least of equal ones", x.hide(0, 1), 1);
        LiarsCock y = village(TWO + "common not a;");
        y.truth(1);
        say(y, 0, 5, "not a");
        y.watch(0, 5);
        due("none fits", y.hidden(0, 0), 1);
        due("none fits", y.hide(0, 0), 0);
        LiarsCock z = village(TWO + "common a;");
        z.truth(1);
        say(z, 0, 5, "not a");
        due("not SO in any COMMON WORLD", z.hidden(0, 0), 0);
        due("not SO in any COMMON WORLD", z.hide(0, 1), NONE);
        LiarsCock w = village(TWO + "common 0;");
        say(w, 0, 5, "a");
        due("nothing is COMMON: none fits", w.hide(0, 0), 0);
    }

    /** Between the SAYINGS by MINUTES, behind those of the same MINUTE, OFFERS by their order. */
    private static void offersByMinutes() {
        LiarsCock x = village(TWO);
        x.truth(1);
        say(x, 0, 5, "not a");
        x.watch(0, 7);
        offer(x, 1, 4, "0");
        due("a MINUTE ahead of it: the SAYING is seen", x.hidden(0, 1), 0);
        offer(x, 1, 5, "0");
        due("of the same MINUTE it is behind", x.hidden(0, 2), 1);
        offer(x, 1, 7, "0");
        due("in the MINUTE of the WATCH", x.hidden(0, 4), 1);
        offer(x, 1, 8, "0");
        due("a MINUTE behind it", x.hidden(0, 8), 0);
        offer(x, 0, 7, "not a");
        due("by their order: behind the third", x.hidden(0, 4 + 16), 0);
        offer(x, 1, 7, "0");
        due("by their order: the sixth is behind", x.hidden(0, 16 + 32), 1);
        due("the least single one", x.hide(0, 1), 2);
        LiarsCock y = village(TWO);
        y.truth(1);
        say(y, 0, 0, "not a");
        say(y, 0, 1439, "not a");
        y.watch(0, 1439);
        offer(y, 1, 1439, "0");
        offer(y, 1, 0, "0");
        due("in the last MINUTE", y.hidden(1, 1), 1);
        due("in the first", y.hidden(1, 2), 0);
    }

    // ---- Promise 27

    /** All from the first to the last give odds; what is outside is refused. */
    private static void secretBounds(String what, int first, int last, Call call) {
        due(what + " " + first, call.with(first) >= 0, true);
        due(what + " " + last, call.with(last) >= 0, true);
        for (int outside : new int[] {first - 1, last + 1, LEAST, GREATEST}) {
            due(what + " " + outside, call.with(outside), -2);
        }
    }

    private static void secretBounds() {
        LiarsCock x = day();
        secretBounds("secret of", 0, 2, s -> secret(x, s, 0, 5, 1, 0));
        secretBounds("secret, cock", 0, 1, c -> secret(x, 0, c, 5, 1, 0));
        secretBounds("secret, ten", 1, 9, ten -> secret(x, 0, 0, ten, 1, 0));
        secretBounds("secret, n", 1, 15, n -> secret(x, 0, 0, 5, n, 0));
        secretBounds("secret, what", 0, 1, what -> secret(x, 0, 0, 5, 1, what));
        LiarsCock one = turns(TWO, 1);
        secretBounds("secret, one cock", 0, 0, c -> secret(one, 0, c, 5, 1, 0));
        due("nothing said", secret(village(TWO), 0, 0, 5, 1, 0), -2);
        refused("secret", () -> day(), -2, y -> secret(y, 0, 0, 0, 1, 0));
        LiarsCock z = village(TWO + "cock 1 law 1 late 0;");
        say(z, 1, 0, "a");
        z.say(1, 0);
        due("a LIE for cock 0", secret(z, 0, 0, 5, 1, 1), 2);
        due("no LIE for cock 1", secret(z, 0, 1, 5, 1, 1), -2);
        due("a QUESTION", secret(z, 1, 0, 5, 1, 1), -2);
        z.truth(1);
        due("no LIE in the TRUTH", secret(z, 0, 0, 5, 1, 1), -2);
    }

    /** The first n MINUTES from late behind it on; behind MINUTE 1439. */
    private static void secretEnds() {
        LiarsCock x = day();
        due("10 MINUTES", secret(x, 0, 0, 5, 10, 1), 1024);
        due("9 MINUTES", secret(x, 0, 0, 5, 9, 1), 512);
        due("10 of 11", secret(x, 0, 0, 5, 11, 1), 1024);
        due("10 of 15", secret(x, 0, 0, 5, 15, 1), 1024);
        due("15 of 15", secret(x, 2, 0, 5, 15, 1), 32768);
        due("5 late: the same", secret(x, 1, 1, 5, 15, 1), 1024);
        due("the first MINUTE", secret(x, 1, 0, 5, 1, 1), 2);
        LiarsCock y = turns(TWO, 4);
        due("t in 0 and 2 of 0 .. 3", secret(y, 0, 0, 5, 4, 1), 4);
        due("u in 1 and 3 .. of 1 .. 15", secret(y, 1, 0, 5, 15, 1), 1L << 14);
        for (int late : new int[] {0, 1, 60}) {
            LiarsCock z = village(TWO + "cock 0 law 0 late " + late + ";");
            say(z, 0, 1439 - late - 14, "0");
            due("up to 1439, late " + late, secret(z, 0, 0, 5, 15, 1), 32768);
            say(z, 0, 1439 - late - 13, "0");
            due("one behind it, late " + late, secret(z, 1, 0, 5, 15, 1), -2);
            due("14 are not, late " + late, secret(z, 1, 0, 5, 14, 1), 16384);
            say(z, 0, 1439 - late, "0");
            due("the last MINUTE, late " + late, secret(z, 2, 0, 5, 1, 1), 2);
            due("one behind it, late " + late, secret(z, 2, 0, 5, 2, 1), -2);
        }
        LiarsCock w = village(TWO + "cock 0 law 0 late 60;");
        say(w, 0, 1380, "0");
        due("late alone is behind it", secret(w, 0, 0, 5, 1, 1), -2);
    }

    private static void secretTerms() {
        LiarsCock x = village(TWO);
        say(x, 0, 0, "0");
        say(x, 0, 100, "0");
        say(x, 1, 100, "0");
        int[][] terms = {{9, 10}, {4, 5}, {7, 10}, {3, 5}, {1, 2}, {2, 5}, {3, 10}, {1, 5}, {1, 10}};
        for (int ten = 1; ten <= 9; ten++) {
            long above = 1;
            long below = 1;
            for (int n = 1; n <= 15; n++) {
                above *= terms[ten - 1][0];
                below *= terms[ten - 1][1];
                due("above, " + ten + " of ten, " + n, secret(x, 0, 0, ten, n, 0), above);
                due("below, " + ten + " of ten, " + n, secret(x, 0, 0, ten, n, 1), below);
            }
        }
        due("never pointed at: 1", secret(x, 1, 0, 5, 15, 0), 1);
        due("never pointed at: of 1", secret(x, 1, 0, 5, 15, 1), 1);
    }

    // ---- Promises 28, 29

    private static void sectorBounds() {
        LiarsCock x = village(six(0, 1, 180, 358, 359, 0));
        bounds("sector from", 0, 359, from -> x.sector(from, 5));
        bounds("sector to", 0, 359, to -> x.sector(5, to));
        int[][] want = {{0, 0, 33}, {0, 359, 63}, {359, 0, 16 + 33}, {1, 0, 63}, {1, 359, 2 + 4 + 8 + 16}, {359, 358, 63},
            {358, 1, 63 - 4}, {2, 179, 0}, {2, 180, 4}, {180, 180, 4}, {181, 357, 0}, {181, 358, 8}, {359, 359, 16},
            {2, 1, 63}, {180, 179, 63}, {181, 179, 63 - 4}};
        for (int[] w : want) {
            due("from " + w[0] + " to " + w[1], x.sector(w[0], w[1]), w[2]);
        }
        due("nobody there", new LiarsCock().sector(0, 359), 0);
        due("nobody there", new LiarsCock().sector(0, 360), NONE);
    }

    private static void blindBounds() {
        LiarsCock x = village(six(0, 1, 180, 358, 359, 0));
        bounds("blind by", 0, 180, width -> x.blind(width, 0));
        bounds("blind, what", 0, 1, what -> x.blind(5, what));
        due("all pairs", x.blind(180, 0), 15);
        due("all", x.blind(180, 1), 6);
        due("nobody there", new LiarsCock().blind(0, 0), 0);
        due("nobody there", new LiarsCock().blind(0, 1), 0);
        LiarsCock one = village("place p bearing 9;person t at p knows;");
        due("one: no pair", one.blind(180, 0), 0);
        due("one: a CROWD of one", one.blind(0, 1), 1);
    }

    /** No farther apart than that, the shorter way round. */
    private static void blindWidth() {
        int[][] want = {{0, 0, 0}, {0, 1, 1}, {0, 359, 1}, {359, 0, 1}, {0, 180, 180}, {0, 179, 179}, {0, 181, 179},
            {350, 10, 20}, {90, 270, 180}, {91, 270, 179}, {90, 271, 179}};
        for (int[] w : want) {
            LiarsCock x = village("place p bearing " + w[0] + ";place q bearing " + w[1]
                + ";person t at p knows;person u at q knows;");
            due(w[0] + " and " + w[1] + " by " + w[2], x.blind(w[2], 0), 1);
            due(w[0] + " and " + w[1] + " by " + w[2], x.blind(w[2], 1), 2);
            due("one less", x.blind(w[2] - 1, 0), w[2] == 0 ? NONE : 0);
            due("one less", x.blind(w[2] - 1, 1), w[2] == 0 ? NONE : 1);
        }
    }

    /** By such pairs one behind the other: {six bearings, width, pairs, greatest CROWD}. */
    private static void crowds() {
        int[][] want = {{30, 0, 50, 10, 40, 20, 10, 5, 6}, {30, 0, 50, 10, 40, 20, 9, 0, 1}, {0, 10, 20, 40, 50, 60, 10, 4, 3},
            {0, 10, 30, 40, 50, 70, 10, 3, 3}, {0, 60, 120, 180, 240, 300, 60, 6, 6}, {0, 60, 120, 180, 240, 300, 59, 0, 1},
            {345, 350, 355, 0, 5, 10, 5, 5, 6}, {0, 100, 1, 101, 2, 102, 1, 4, 3}, {7, 7, 7, 7, 7, 7, 0, 15, 6},
            {0, 1, 100, 200, 201, 202, 1, 3, 3}};
        for (int[] w : want) {
            LiarsCock x = village(six(w[0], w[1], w[2], w[3], w[4], w[5]));
            due("pairs by " + w[6] + " of " + java.util.Arrays.toString(w), x.blind(w[6], 0), w[7]);
            due("CROWD by " + w[6] + " of " + java.util.Arrays.toString(w), x.blind(w[6], 1), w[8]);
        }
    }

    // ---- Promises 30, 31

    private static void toldBounds() {
        LiarsCock x = village(SIX_PEOPLE);
        bounds("told by six", 0, 63, set -> x.told(set));
        bounds("told by nobody there", 0, 0, set -> new LiarsCock().told(set));
        LiarsCock y = village(TWO + "common b;");
        bounds("told by two", 0, 3, set -> y.told(set));
        due("nobody: what is COMMON", y.told(0), 2);
        due("t: all", y.told(1), 3);
        due("u: what is COMMON", y.told(2), 2);
        due("both", y.told(3), 3);
        LiarsCock z = village(TWO + "common not a;");
        due("none is so", z.told(0), 1);
        z.truth(1);
        due("no such WORLD: none", z.told(1), 0);
        due("u does not know", z.told(2), 1);
        due("nothing is COMMON: none", village(TWO + "common 0;").told(3), 0);
    }

    private static void fewestBounds() {
        LiarsCock x = village(SIX_FACTS + "common 1=a*b*c*d*e*f;");
        bounds("fewest", 0, 5, f -> x.fewest(f, 0));
        bounds("fewest, what", 0, 1, what -> x.fewest(5, what));
        due("nobody", x.fewest(5, 0), 0);
        due("nobody", x.fewest(5, 1), 0);
        LiarsCock y = village(TWO);
        due("t", y.fewest(0, 1), 1);
        due("by no set", y.fewest(1, 0), NONE);
        due("by no set", y.fewest(1, 1), NONE);
        outside("fewest, no FACT", 0, NONE, f -> new LiarsCock().fewest(f, 0));
        LiarsCock z = village(TWO + "common 0;");
        due("no WORLD", z.fewest(0, 0), NONE);
    }

    /** The sixth FACT is the odd one of five that five PEOPLE know, each one; the first knows nothing. */
    private static void fewestOfAll() {
        StringBuilder s = new StringBuilder(SIX_FACTS + "place p bearing 0;person t at p knows;");
        for (char c = 'a'; c <= 'e'; c++) {
            s.append("person q").append(c).append(" at p knows ").append(c).append(';');
        }
        s.append("common f = ((a+b+c+d+e=1) + (a+b+c+d+e=3) + (a+b+c+d+e=5));");
        LiarsCock x = village(s.toString());
        due("32 WORLDS", x.count(11), 32);
        due("five", x.fewest(5, 0), 5);
        due("but the first", x.fewest(5, 1), 62);
        due("all told by 62", x.told(62), 63);
        due("not by 60", x.told(60), 63 - 1 - 32);
        for (int f = 0; f < 5; f++) {
            due("one for " + f, x.fewest(f, 1), 2 << f);
        }
        LiarsCock y = village("fact a;place p bearing 0;person t at p knows;person u at p knows a;person v at p knows a;");
        due("the least of equal ones", y.fewest(0, 1), 2);
    }

    // ---- Promise 32

    private static void personBounds() {
        LiarsCock x = village(SIX_PEOPLE);
        for (int of = 0; of <= 2; of++) {
            int what = of;
            bounds("person, what " + what, 0, 5, p -> x.person(p, what));
        }
        bounds("person, what", 0, 2, what -> x.person(5, what));
        outside("person, nobody there", 0, NONE, p -> new LiarsCock().person(p, 0));
        due("the place of the last", x.person(5, 0), 5);
        due("the bearing of the last", x.person(5, 1), 60);
        due("nothing", x.person(5, 2), 0);
        LiarsCock y = village(SIX_FACTS + "place p bearing 359;place q bearing 0;person t at q knows f e d c b a;"
            + "person u at p knows f;");
        due("all six", y.person(0, 2), 63);
        due("at the second", y.person(0, 0), 1);
        due("0", y.person(0, 1), 0);
        due("the last", y.person(1, 2), 32);
        due("359", y.person(1, 1), 359);
    }

    // ---- Promise 33

    /** The FACT e is the odd one of the first n of four others, told by t in 10, 30, .. if they are not so. */
    private static LiarsCock odd(int n) {
        String sum = n == 4 ? "a+b+c+d" : n == 3 ? "a+b+c" : n == 2 ? "a+b" : "a";
        LiarsCock x = village("fact a;fact b;fact c;fact d;fact e;place p bearing 9;place q bearing 200;"
            + "person t at p knows;person u at q knows;common e = ((" + sum + "=1)+(" + sum + "=3));cock 1 law 0 late 5;");
        for (int i = 0; i < 4; i++) {
            say(x, 0, 20 * i + 10, String.valueOf((char) ('a' + i)));
            say(x, 1, 20 * i + 20, "0");
        }
        return x;
    }

    private static void lookoutBounds() {
        LiarsCock x = odd(3);
        bounds("lookout, cock", 0, 1, c -> x.lookout(c, 4, 0));
        bounds("lookout, fact", 0, 4, f -> x.lookout(0, f, 0));
        bounds("lookout, what", 0, 3, what -> x.lookout(0, 4, what));
        for (int n = 1; n <= 3; n++) {
            LiarsCock y = odd(n);
            due("as many as " + n, y.lookout(0, 4, 0), n);
            due("5 late: as many", y.lookout(1, 4, 0), n);
            for (int what = 1; what <= 3; what++) {
                due(n + ": MINUTE " + what, y.lookout(0, 4, what), what <= n ? 20 * what - 10 : NONE);
                due(n + ": MINUTE " + what + ", 5 late", y.lookout(1, 4, what), what <= n ? 20 * what - 5 : NONE);
            }
            due("beyond", y.lookout(0, 4, 4), NONE);
        }
        LiarsCock four = odd(4);
        for (int what = 0; what <= 4; what++) {
            due("not by 3: what " + what, four.lookout(0, 4, what), NONE);
        }
        outside("lookout, no FACT", 0, NONE, f -> new LiarsCock().lookout(0, f, 0));
        LiarsCock one = village(TWO + "common a;");
        bounds("lookout, one cock", 0, 0, c -> one.lookout(c, 0, 0));
    }

    /** None if it is SURE; no WORLD CAN BE; the first MINUTE and the last. */
    private static void lookoutEnds() {
        LiarsCock x = village(TWO + "common a;");
        due("SURE", x.lookout(0, 0, 0), 0);
        due("SURE", x.lookout(0, 0, 1), NONE);
        due("not SURE, nothing said", x.lookout(0, 1, 0), NONE);
        x.look(0, 0, 1, 1);
        due("no WORLD CAN BE", x.lookout(0, 0, 0), NONE);
        LiarsCock y = village(TWO + "cock 1 law 0 late 60;");
        say(y, 0, 0, "a");
        due("MINUTE 0", y.lookout(0, 0, 0), 1);
        due("MINUTE 0", y.lookout(0, 0, 1), 0);
        due("late 60", y.lookout(1, 0, 1), 60);
        say(y, 0, 1379, "b");
        say(y, 1, 1379, "b");
        due("up to 1439", y.lookout(1, 1, 1), 1439);
        LiarsCock w = village(TWO + "cock 1 law 1 late 0;");
        say(w, 1, 7, "a");
        due("by law 0", w.lookout(0, 0, 1), 7);
        due("not by law 1", w.lookout(1, 0, 0), NONE);
        say(w, 0, 8, "not a");
        due("by law 1, who knows it", w.lookout(1, 0, 1), 8);
        LiarsCock z = village(TWO + "cock 1 law 0 late 60;");
        say(z, 0, 1380, "a");
        due("behind 1439", z.lookout(1, 0, 0), NONE);
        due("not late", z.lookout(0, 0, 1), 1380);
        say(z, 1, 1439, "b");
        due("1439", z.lookout(0, 1, 1), 1439);
    }

    /** Of as many the least first one, then the least second one, then the least third one. */
    private static void lookoutLeast() {
        String parish = "fact a;fact b;fact c;fact d;place p bearing 9;place q bearing 200;person t at p knows;"
            + "person u at q knows;common d = ";
        String[] two = {"a", "a", "b", "b"};
        due("the least of two", lookout(parish + "(a = b);", two), 10 * 1000 + 50);
        String[] crossed = {"a", "b", "b", "a"};
        due("the least first one", lookout(parish + "(a = b);", crossed), 10 * 1000 + 30);
        String[] three = {"a", "c", "b", "c", "b"};
        due("the least of three", lookout(parish + "((a+b+c=1)+(a+b+c=3));", three), (10 * 1000 + 30) * 1000 + 50);
        LiarsCock x = village("fact a;fact b;fact c;common c = (a = b);" + SIX_PEOPLE);
        say(x, 0, 10, "a");
        say(x, 1, 11, "b");
        due("MINUTES side by side", x.lookout(0, 2, 0), 2);
        due("MINUTES side by side", x.lookout(0, 2, 1), 10);
        due("MINUTES side by side", x.lookout(0, 2, 2), 11);
        String[] one = {"a", "b", "d", "d"};
        due("one is fewer than two", lookout(parish + "(a = b);", one), 50);
    }

    /** The MINUTES of a LOOKOUT for FACT 3, told by t in 10, 30, .., three digits each. */
    private static long lookout(String parish, String[] said) {
        LiarsCock x = village(parish);
        for (int i = 0; i < said.length; i++) {
            say(x, 0, 20 * i + 10, said[i]);
            say(x, 1, 20 * i + 20, "0");
        }
        long minutes = 0;
        for (int what = 1; what <= x.lookout(0, 3, 0); what++) {
            minutes = minutes * 1000 + x.lookout(0, 3, what);
        }
        return minutes;
    }

    // ---- Promise 34

    private static void moveBounds() {
        LiarsCock x = village(BOTH);
        bounds("move of", 0, 1, c -> x.move(c, NONE));
        bounds("move but", NONE, 1, but -> x.move(0, but));
        bounds("move, one cock", 0, 0, c -> village(TWO).move(c, NONE));
        due("no FACT", village(SIX_PEOPLE).move(0, NONE), NONE);
        due("nobody there", village("fact a;").move(0, NONE), NONE);
        due("nobody there but 0", village("fact a;").move(0, 0), NONE);
        due("but the only one", village("fact a;place p bearing 1;person t at p knows;").move(0, 0), NONE);
        due("but none", village("fact a;place p bearing 1;person t at p knows;").move(0, NONE), 0);
        LiarsCock full = turns(TWO, 24);
        due("behind 24 SAYINGS", full.move(0, NONE), 0);
        due("24 stay", full.count(5), 24);
    }

    /** The first one by the first FACT, so ahead of not so. */
    private static void moveFirst() {
        LiarsCock x = village(SIX_FACTS + SIX_PEOPLE.replace("person qf at pf knows", "person qf at pf knows f")
            + "cock 0 law 1 late 0;cock 1 law 0 late 0;");
        due("the last by the last FACT: so", x.move(0, NONE), 70);
        due("by all but him: nobody", x.move(0, 5), NONE);
        due("the first by law 0: so", x.move(1, NONE), 0);
        due("the second", x.move(1, 0), 12);
        x.truth(32);
        due("the last by the last FACT: not so", x.move(0, NONE), 71);
        due("the first by law 0", x.move(1, NONE), 0);
        x.truth(63);
        due("the first by law 0: not so", x.move(1, NONE), 1);
        due("the second", x.move(1, 0), 13);
        due("the first, but another one", x.move(1, 1), 1);
        due("the first, but the last one", x.move(1, 5), 1);
        LiarsCock y = village(TWO + "cock 0 law 1 late 0;common not a;");
        due("what is not COMMON: so", y.move(0, NONE), 0);
        due("u by what is COMMON", y.move(0, 0), 12);
        y.truth(1);
        due("no COMMON WORLD is so as t knows: all he says", y.move(0, 1), 0);
        LiarsCock z = village(TWO + "cock 0 law 1 late 0;common b;");
        z.truth(3);
        due("t: not a", z.move(0, NONE), 1);
        due("u: not b", z.move(0, 0), 12 + 3);
    }

    // ---- Promises 35, 36

    private static void longestBounds() {
        LiarsCock x = day();
        bounds("longest of", 0, 1, c -> x.longest(c, 0, 9, 0));
        bounds("longest from", 0, 1439, from -> x.longest(0, from, 1439, 0));
        bounds("longest to", 0, 1439, to -> x.longest(0, 0, to, 0));
        bounds("longest, what", 0, 1, what -> x.longest(0, 0, 9, what));
        bounds("longest, one cock", 0, 0, c -> turns(TWO, 1).longest(c, 0, 9, 0));
        due("back", x.longest(0, 10, 9, 0), NONE);
        due("5 late: at nobody in all", x.longest(1, 0, 4, 0), NONE);
        due("5 late: at nobody in all", x.longest(1, 0, 4, 1), NONE);
        due("5 late: in one", x.longest(1, 0, 5, 0), 1);
        due("5 late: at t", x.longest(1, 0, 5, 1), 0);
    }

    /** {from, to, how many, at whom}. */
    private static void longestEnds() {
        LiarsCock x = day();
        int[][] want = {{0, 1439, 1420, 0}, {0, 9, 10, 0}, {0, 0, 1, 0}, {0, 19, 10, 0}, {1, 19, 10, 1}, {0, 18, 10, 0},
            {5, 15, 6, 1}, {5, 14, 5, 0}, {10, 29, 10, 1}, {10, 30, 11, 0}, {11, 29, 10, 0}, {1439, 1439, 1, 0},
            {19, 19, 1, 1}, {20, 20, 1, 0}, {9, 10, 1, 0}};
        for (int[] w : want) {
            due("longest from " + w[0] + " to " + w[1], x.longest(0, w[0], w[1], 0), w[2]);
            due("at whom from " + w[0] + " to " + w[1], x.longest(0, w[0], w[1], 1), w[3]);
        }
        LiarsCock y = village(TWO);
        due("at nobody", y.longest(0, 0, 1439, 0), NONE);
        say(y, 1, 1439, "0");
        due("1439 at nobody do not count", y.longest(0, 0, 1439, 0), 1);
        due("at u", y.longest(0, 0, 1439, 1), 1);
        due("at nobody", y.longest(0, 0, 1438, 1), NONE);
        LiarsCock z = village(TWO);
        say(z, 0, 5, "0");
        say(z, 0, 8, "0");
        say(z, 1, 12, "0");
        due("lies of the same one are one time", z.longest(0, 0, 15, 0), 7);
        due("not put together behind another one", day().longest(0, 0, 29, 0), 10);
    }

    private static void differBounds() {
        LiarsCock x = day();
        bounds("differ from", 0, 1439, from -> x.differ(from, 1439));
        bounds("differ to", 0, 1439, to -> x.differ(0, to));
        due("back", x.differ(10, 9), NONE);
        due("one cock", village(TWO).differ(0, 9), NONE);
        int[][] want = {{0, 1439, 15}, {0, 0, 1}, {0, 4, 5}, {0, 5, 5}, {4, 4, 1}, {5, 5, 0}, {9, 10, 1}, {10, 14, 5},
            {14, 15, 1}, {15, 19, 0}, {20, 24, 5}, {24, 25, 1}, {25, 1439, 0}, {1439, 1439, 0}};
        for (int[] w : want) {
            due("differ from " + w[0] + " to " + w[1], x.differ(w[0], w[1]), w[2]);
        }
        LiarsCock y = village(BOTH);
        due("both at nobody", y.differ(0, 1439), 0);
        say(y, 0, 5, "0");
        due("both at t", y.differ(0, 1439), 0);
        LiarsCock z = village(TWO + "place r bearing 9;person v at r knows;cock 1 law 0 late 1;");
        say(z, 0, 5, "0");
        say(z, 2, 9, "0");
        due("unlike ones at the same bearing", z.differ(6, 1439), 1);
    }
}
